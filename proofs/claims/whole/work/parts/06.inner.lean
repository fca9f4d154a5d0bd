/-! 06.inner: printed by wip/whole/gen.py: pure functions, and that the bytecode meets them -/
def f_X1_remember_j35 {ρ : Type} (zr_bitCount : Nat → Int32) (zr_given : Nat → Int32) (zr_made : Nat → Int32) (zr_gone : Nat → Int32) (zr_law : Nat → Int32) (zr_has : Nat → Nat → Int32) (zr_left : Nat → Nat → Int32) (zr_bits : Nat → Nat → Int32) (z_next : Int32) (z_known : Int32) (zr_bitCount_10 : Int32) (zr_given_10 : Int32) (zr_made_10 : Int32) (zr_gone_10 : Int32) (zr_law_10 : Int32) (zr_has_10 : Nat → Int32) (zr_left_10 : Nat → Int32) (zr_bits_10 : Nat → Int32) (k : Int32 → Int32 → (Nat → Nat → Int32) → (Nat → Nat → Int32) → (Nat → Nat → Int32) → (Nat → Int32) → (Nat → Int32) → (Nat → Int32) → (Nat → Int32) → (Nat → Int32) → Option ρ) (s1_j35 : Int32) : Option ρ := k s1_j35 (if (z_known + 1) < 10 then (z_known + 1) else 10) (va_up zr_has (z_next).toNatClampNeg zr_has_10) (va_up zr_left (z_next).toNatClampNeg zr_left_10) (va_up zr_bits (z_next).toNatClampNeg zr_bits_10) (va_up zr_bitCount (z_next).toNatClampNeg zr_bitCount_10) (va_up zr_given (z_next).toNatClampNeg zr_given_10) (va_up zr_made (z_next).toNatClampNeg zr_made_10) (va_up zr_gone (z_next).toNatClampNeg zr_gone_10) (va_up zr_law (z_next).toNatClampNeg zr_law_10)
def f_X1_remember {ρ : Type} (N : Nat) (z_next : Int32) (z_known : Int32) (zr_has : Nat → Nat → Int32) (zr_left : Nat → Nat → Int32) (zr_bits : Nat → Nat → Int32) (zr_bitCount : Nat → Int32) (zr_given : Nat → Int32) (zr_made : Nat → Int32) (zr_gone : Nat → Int32) (zr_law : Nat → Int32) (w_bitCount : Int32) (w_given : Int32) (w_made : Int32) (w_gone : Int32) (w_law : Int32) (w_has : Nat → Int32) (w_left : Nat → Int32) (w_bits : Nat → Int32) (k : Int32 → Int32 → (Nat → Nat → Int32) → (Nat → Nat → Int32) → (Nat → Nat → Int32) → (Nat → Int32) → (Nat → Int32) → (Nat → Int32) → (Nat → Int32) → (Nat → Int32) → Option ρ) : Option ρ := ck (ivi z_next 10) (f_X0_become N w_bitCount w_given w_made w_gone w_law w_has (zr_has (z_next).toNatClampNeg) w_left (zr_left (z_next).toNatClampNeg) w_bits (zr_bits (z_next).toNatClampNeg) (fun zr_bitCount_10 zr_given_10 zr_made_10 zr_gone_10 zr_law_10 zr_has_10 zr_left_10 zr_bits_10 => if 10 ≤ (z_next + 1) then (f_X1_remember_j35 zr_bitCount zr_given zr_made zr_gone zr_law zr_has zr_left zr_bits z_next z_known zr_bitCount_10 zr_given_10 zr_made_10 zr_gone_10 zr_law_10 zr_has_10 zr_left_10 zr_bits_10 k 0) else (f_X1_remember_j35 zr_bitCount zr_given zr_made zr_gone zr_law zr_has zr_left zr_bits z_next z_known zr_bitCount_10 zr_given_10 zr_made_10 zr_gone_10 zr_law_10 zr_has_10 zr_left_10 zr_bits_10 k (z_next + 1))))
abbrev w_X1_remember (cI cZ cQ cW : ClassId) (z_o : Nat) (z_rows_a : Nat) (z_rows_r : Nat → Nat) (zr_has_q : Nat → Nat) (zr_left_q : Nat → Nat) (zr_bits_q : Nat → Nat) (w_o : Nat) (w_has_a : Nat) (w_left_a : Nat) (w_bits_a : Nat) (z_next : Int32) (z_known : Int32) (zr_has : Nat → Nat → Int32) (zr_left : Nat → Nat → Int32) (zr_bits : Nat → Nat → Int32) (zr_bitCount : Nat → Int32) (zr_given : Nat → Int32) (zr_made : Nat → Int32) (zr_gone : Nat → Int32) (zr_law : Nat → Int32) (w_bitCount : Int32) (w_given : Int32) (w_made : Int32) (w_gone : Int32) (w_law : Int32) (w_has : Nat → Int32) (w_left : Nat → Int32) (w_bits : Nat → Int32) : va_W := [(z_o, .inr (1, [.ref z_rows_a, .int z_next, .int z_known])), (z_rows_a, .inl (cQ, 10, .inr (.inr (.inr (.inr (fun i => if i < 10 then some (z_rows_r i) else none)))))), (z_rows_r 0, .inr (0, [.ref (zr_has_q 0), .ref (zr_left_q 0), .ref (zr_bits_q 0), .int (zr_bitCount 0), .int (zr_given 0), .int (zr_made 0), .int (zr_gone 0), .int (zr_law 0)])), (zr_has_q 0, .inl (cI, 6, .inl (zr_has 0))), (zr_left_q 0, .inl (cI, 6, .inl (zr_left 0))), (zr_bits_q 0, .inl (cI, 8, .inl (zr_bits 0))), (z_rows_r 1, .inr (0, [.ref (zr_has_q 1), .ref (zr_left_q 1), .ref (zr_bits_q 1), .int (zr_bitCount 1), .int (zr_given 1), .int (zr_made 1), .int (zr_gone 1), .int (zr_law 1)])), (zr_has_q 1, .inl (cI, 6, .inl (zr_has 1))), (zr_left_q 1, .inl (cI, 6, .inl (zr_left 1))), (zr_bits_q 1, .inl (cI, 8, .inl (zr_bits 1))), (z_rows_r 2, .inr (0, [.ref (zr_has_q 2), .ref (zr_left_q 2), .ref (zr_bits_q 2), .int (zr_bitCount 2), .int (zr_given 2), .int (zr_made 2), .int (zr_gone 2), .int (zr_law 2)])), (zr_has_q 2, .inl (cI, 6, .inl (zr_has 2))), (zr_left_q 2, .inl (cI, 6, .inl (zr_left 2))), (zr_bits_q 2, .inl (cI, 8, .inl (zr_bits 2))), (z_rows_r 3, .inr (0, [.ref (zr_has_q 3), .ref (zr_left_q 3), .ref (zr_bits_q 3), .int (zr_bitCount 3), .int (zr_given 3), .int (zr_made 3), .int (zr_gone 3), .int (zr_law 3)])), (zr_has_q 3, .inl (cI, 6, .inl (zr_has 3))), (zr_left_q 3, .inl (cI, 6, .inl (zr_left 3))), (zr_bits_q 3, .inl (cI, 8, .inl (zr_bits 3))), (z_rows_r 4, .inr (0, [.ref (zr_has_q 4), .ref (zr_left_q 4), .ref (zr_bits_q 4), .int (zr_bitCount 4), .int (zr_given 4), .int (zr_made 4), .int (zr_gone 4), .int (zr_law 4)])), (zr_has_q 4, .inl (cI, 6, .inl (zr_has 4))), (zr_left_q 4, .inl (cI, 6, .inl (zr_left 4))), (zr_bits_q 4, .inl (cI, 8, .inl (zr_bits 4))), (z_rows_r 5, .inr (0, [.ref (zr_has_q 5), .ref (zr_left_q 5), .ref (zr_bits_q 5), .int (zr_bitCount 5), .int (zr_given 5), .int (zr_made 5), .int (zr_gone 5), .int (zr_law 5)])), (zr_has_q 5, .inl (cI, 6, .inl (zr_has 5))), (zr_left_q 5, .inl (cI, 6, .inl (zr_left 5))), (zr_bits_q 5, .inl (cI, 8, .inl (zr_bits 5))), (z_rows_r 6, .inr (0, [.ref (zr_has_q 6), .ref (zr_left_q 6), .ref (zr_bits_q 6), .int (zr_bitCount 6), .int (zr_given 6), .int (zr_made 6), .int (zr_gone 6), .int (zr_law 6)])), (zr_has_q 6, .inl (cI, 6, .inl (zr_has 6))), (zr_left_q 6, .inl (cI, 6, .inl (zr_left 6))), (zr_bits_q 6, .inl (cI, 8, .inl (zr_bits 6))), (z_rows_r 7, .inr (0, [.ref (zr_has_q 7), .ref (zr_left_q 7), .ref (zr_bits_q 7), .int (zr_bitCount 7), .int (zr_given 7), .int (zr_made 7), .int (zr_gone 7), .int (zr_law 7)])), (zr_has_q 7, .inl (cI, 6, .inl (zr_has 7))), (zr_left_q 7, .inl (cI, 6, .inl (zr_left 7))), (zr_bits_q 7, .inl (cI, 8, .inl (zr_bits 7))), (z_rows_r 8, .inr (0, [.ref (zr_has_q 8), .ref (zr_left_q 8), .ref (zr_bits_q 8), .int (zr_bitCount 8), .int (zr_given 8), .int (zr_made 8), .int (zr_gone 8), .int (zr_law 8)])), (zr_has_q 8, .inl (cI, 6, .inl (zr_has 8))), (zr_left_q 8, .inl (cI, 6, .inl (zr_left 8))), (zr_bits_q 8, .inl (cI, 8, .inl (zr_bits 8))), (z_rows_r 9, .inr (0, [.ref (zr_has_q 9), .ref (zr_left_q 9), .ref (zr_bits_q 9), .int (zr_bitCount 9), .int (zr_given 9), .int (zr_made 9), .int (zr_gone 9), .int (zr_law 9)])), (zr_has_q 9, .inl (cI, 6, .inl (zr_has 9))), (zr_left_q 9, .inl (cI, 6, .inl (zr_left 9))), (zr_bits_q 9, .inl (cI, 8, .inl (zr_bits 9))), (w_o, .inr (0, [.ref w_has_a, .ref w_left_a, .ref w_bits_a, .int w_bitCount, .int w_given, .int w_made, .int w_gone, .int w_law])), (w_has_a, .inl (cI, 6, .inl w_has)), (w_left_a, .inl (cI, 6, .inl w_left)), (w_bits_a, .inl (cI, 8, .inl w_bits))]
abbrev rm_X1_remember : Room := { frames := 1, cells := 0, slots := 0, locals := 22 }
set_option maxHeartbeats 4000000 in
set_option maxRecDepth 100000 in
theorem c_X1_remember (l : Launch) (dC : Nat → ClassId) (dI : Nat → Nat → Nat) (cI cZ cQ cW : ClassId) (z_o : Nat) (z_rows_a : Nat) (z_rows_r : Nat → Nat) (zr_has_q : Nat → Nat) (zr_left_q : Nat → Nat) (zr_bits_q : Nat → Nat) (w_o : Nat) (w_has_a : Nat) (w_left_a : Nat) (w_bits_a : Nat) (z_next : Int32) (z_known : Int32) (zr_has : Nat → Nat → Int32) (zr_left : Nat → Nat → Int32) (zr_bits : Nat → Nat → Int32) (zr_bitCount : Nat → Int32) (zr_given : Nat → Int32) (zr_made : Nat → Int32) (zr_gone : Nat → Int32) (zr_law : Nat → Int32) (w_bitCount : Int32) (w_given : Int32) (w_made : Int32) (w_gone : Int32) (w_law : Int32) (w_has : Nat → Int32) (w_left : Nat → Int32) (w_bits : Nat → Int32) {ρ : Type} (N : Nat) (k : Int32 → Int32 → (Nat → Nat → Int32) → (Nat → Nat → Int32) → (Nat → Nat → Int32) → (Nat → Int32) → (Nat → Int32) → (Nat → Int32) → (Nat → Int32) → (Nat → Int32) → Option ρ) (res : ρ) (h : f_X1_remember N z_next z_known zr_has zr_left zr_bits zr_bitCount zr_given zr_made zr_gone zr_law w_bitCount w_given w_made w_gone w_law w_has w_left w_bits k = some res) : Cv l yX1_remember (WS yX1_remember cX1_remember 2 none) rm_X1_remember (dC, dI) (tysG cI cZ cQ cW) E0 [.ref z_o, .ref w_o] (w_X1_remember cI cZ cQ cW z_o z_rows_a z_rows_r zr_has_q zr_left_q zr_bits_q w_o w_has_a w_left_a w_bits_a z_next z_known zr_has zr_left zr_bits zr_bitCount zr_given zr_made zr_gone zr_law w_bitCount w_given w_made w_gone w_law w_has w_left w_bits) (fun (u : Int32 × Int32 × (Nat → Nat → Int32) × (Nat → Nat → Int32) × (Nat → Nat → Int32) × (Nat → Int32) × (Nat → Int32) × (Nat → Int32) × (Nat → Int32) × (Nat → Int32)) => (w_X1_remember cI cZ cQ cW z_o z_rows_a z_rows_r zr_has_q zr_left_q zr_bits_q w_o w_has_a w_left_a w_bits_a u.1 u.2.1 u.2.2.1 u.2.2.2.1 u.2.2.2.2.1 u.2.2.2.2.2.1 u.2.2.2.2.2.2.1 u.2.2.2.2.2.2.2.1 u.2.2.2.2.2.2.2.2.1 u.2.2.2.2.2.2.2.2.2 w_bitCount w_given w_made w_gone w_law w_has w_left w_bits)) (fun u => k u.1 u.2.1 u.2.2.1 u.2.2.2.1 u.2.2.2.2.1 u.2.2.2.2.2.1 u.2.2.2.2.2.2.1 u.2.2.2.2.2.2.2.1 u.2.2.2.2.2.2.2.2.1 u.2.2.2.2.2.2.2.2.2 = some res) := by
  refine Cv.of (cc := cX1_remember) (n := 2) (by decide +kernel) (Nat.le_of_ble_eq_true rfl) ?_
  intro p e s m args below meth c A ls Q B hW hE hS hl hQ
  have hx := B.1
  have hb := B.2.1
  have hl : lv_has ls 2 [(0, .ref z_o), (1, .ref w_o)] := hl
  unfold f_X1_remember at h
  refine lv_aload_n (pc := 0) hx hb (tb_at tk_X1_remember 0 rfl) rfl (lv_at hl 0 rfl) ?_
  refine k_get (pc := 1) (v := .ref z_rows_a) (T := TX1) B inG1 hW 0 rfl rfl 0 (by decide) q_f_X1_11 rfl rfl (tb_at tk_X1_remember 1 rfl) ?_
  refine lv_aload_n (pc := 4) hx hb (tb_at tk_X1_remember 2 rfl) rfl (lv_at hl 0 rfl) ?_
  refine k_get (pc := 5) (v := .int z_next) (T := TX1) B inG1 hW 0 rfl rfl 1 (by decide) q_f_X1_18 rfl rfl (tb_at tk_X1_remember 3 rfl) ?_
  have iq8 := ivi_in (ck_l h)
  have h := ck_r h
  refine k_aldo (pc := 8) (r := z_rows_r) B hW 1 2 rfl rfl iq8 (tb_at tk_X1_remember 4 rfl) ?_
  refine lv_aload_n (pc := 9) hx hb (tb_at tk_X1_remember 5 rfl) rfl (lv_at hl 1 rfl) ?_
  have kk9 : ∀ (zr_bitCount_10 : Int32) (zr_given_10 : Int32) (zr_made_10 : Int32) (zr_gone_10 : Int32) (zr_law_10 : Int32) (zr_has_10 : Nat → Int32) (zr_left_10 : Nat → Int32) (zr_bits_10 : Nat → Int32) (H : Heap) (locs : List Loc), (if 10 ≤ (z_next + 1) then (f_X1_remember_j35 zr_bitCount zr_given zr_made zr_gone zr_law zr_has zr_left zr_bits z_next z_known zr_bitCount_10 zr_given_10 zr_made_10 zr_gone_10 zr_law_10 zr_has_10 zr_left_10 zr_bits_10 k 0) else (f_X1_remember_j35 zr_bitCount zr_given zr_made zr_gone zr_law zr_has zr_left zr_bits z_next z_known zr_bitCount_10 zr_given_10 zr_made_10 zr_gone_10 zr_law_10 zr_has_10 zr_left_10 zr_bits_10 k (z_next + 1))) = some res → PD (dC, dI) A (w_X1_remember cI cZ cQ cW z_o z_rows_a z_rows_r zr_has_q zr_left_q zr_bits_q w_o w_has_a w_left_a w_bits_a z_next z_known (va_up zr_has (z_next).toNatClampNeg zr_has_10) (va_up zr_left (z_next).toNatClampNeg zr_left_10) (va_up zr_bits (z_next).toNatClampNeg zr_bits_10) (va_up zr_bitCount (z_next).toNatClampNeg zr_bitCount_10) (va_up zr_given (z_next).toNatClampNeg zr_given_10) (va_up zr_made (z_next).toNatClampNeg zr_made_10) (va_up zr_gone (z_next).toNatClampNeg zr_gone_10) (va_up zr_law (z_next).toNatClampNeg zr_law_10) w_bitCount w_given w_made w_gone w_law w_has w_left w_bits) H → va_S A s.heap H locs → W p l e rm_X1_remember s m args below meth c H locs 0 0 Q (F0 m 13 ls []) := by
    intro zr_bitCount_10 zr_given_10 zr_made_10 zr_gone_10 zr_law_10 zr_has_10 zr_left_10 zr_bits_10 H locs h hW hS
    refine lv_aload_n (pc := 13) hx hb (tb_at tk_X1_remember 7 rfl) rfl (lv_at hl 0 rfl) ?_
    refine lv_aload_n (pc := 14) hx hb (tb_at tk_X1_remember 8 rfl) rfl (lv_at hl 0 rfl) ?_
    refine k_get (pc := 15) (v := .int z_next) (T := TX1) B inG1 hW 0 rfl rfl 1 (by decide) q_f_X1_18 rfl rfl (tb_at tk_X1_remember 9 rfl) ?_
    refine lv_iconst (pc := 18) (v := 1) hx hb (tb_at tk_X1_remember 10 rfl) (by decide) ?_
    refine lv_iadd (pc := 19) hx hb (tb_at tk_X1_remember 11 rfl) ?_
    refine lv_bipush (pc := 20) (v := 10) hx hb (tb_at tk_X1_remember 12 rfl) (by decide) ?_
    have w35 : ∀ (s1_j35 : Int32) (H : Heap) (locs : List Loc) (ls : Array Slot), f_X1_remember_j35 zr_bitCount zr_given zr_made zr_gone zr_law zr_has zr_left zr_bits z_next z_known zr_bitCount_10 zr_given_10 zr_made_10 zr_gone_10 zr_law_10 zr_has_10 zr_left_10 zr_bits_10 k s1_j35 = some res → PD (dC, dI) A (w_X1_remember cI cZ cQ cW z_o z_rows_a z_rows_r zr_has_q zr_left_q zr_bits_q w_o w_has_a w_left_a w_bits_a z_next z_known (va_up zr_has (z_next).toNatClampNeg zr_has_10) (va_up zr_left (z_next).toNatClampNeg zr_left_10) (va_up zr_bits (z_next).toNatClampNeg zr_bits_10) (va_up zr_bitCount (z_next).toNatClampNeg zr_bitCount_10) (va_up zr_given (z_next).toNatClampNeg zr_given_10) (va_up zr_made (z_next).toNatClampNeg zr_made_10) (va_up zr_gone (z_next).toNatClampNeg zr_gone_10) (va_up zr_law (z_next).toNatClampNeg zr_law_10) w_bitCount w_given w_made w_gone w_law w_has w_left w_bits) H → va_S A s.heap H locs → lv_has ls 2 [(0, .ref z_o)] → W p l e rm_X1_remember s m args below meth c H locs 0 0 Q (F0 m 35 ls [.int s1_j35, .ref z_o]) := by
      intro s1_j35 H locs ls h hW hS hl
      unfold f_X1_remember_j35 at h
      refine k_put (pc := 35) (T := TX1) B inG1 tyX1 tyX1_ok nmX1 hW hS 0 rfl rfl 1 (by decide) q_f_X1_18 rfl rfl rfl rfl (Nat.le_of_ble_eq_true rfl) (tb_at tk_X1_remember 20 rfl) (w_X1_remember cI cZ cQ cW z_o z_rows_a z_rows_r zr_has_q zr_left_q zr_bits_q w_o w_has_a w_left_a w_bits_a s1_j35 z_known (va_up zr_has (z_next).toNatClampNeg zr_has_10) (va_up zr_left (z_next).toNatClampNeg zr_left_10) (va_up zr_bits (z_next).toNatClampNeg zr_bits_10) (va_up zr_bitCount (z_next).toNatClampNeg zr_bitCount_10) (va_up zr_given (z_next).toNatClampNeg zr_given_10) (va_up zr_made (z_next).toNatClampNeg zr_made_10) (va_up zr_gone (z_next).toNatClampNeg zr_gone_10) (va_up zr_law (z_next).toNatClampNeg zr_law_10) w_bitCount w_given w_made w_gone w_law w_has w_left w_bits) rfl (fun H locs hW hS => ?_)
      refine lv_aload_n (pc := 38) hx hb (tb_at tk_X1_remember 21 rfl) rfl (lv_at hl 0 rfl) ?_
      refine lv_bipush (pc := 39) (v := 10) hx hb (tb_at tk_X1_remember 22 rfl) (by decide) ?_
      refine lv_aload_n (pc := 41) hx hb (tb_at tk_X1_remember 23 rfl) rfl (lv_at hl 0 rfl) ?_
      refine k_get (pc := 42) (v := .int z_known) (T := TX1) B inG1 hW 0 rfl rfl 2 (by decide) q_f_X1_26 rfl rfl (tb_at tk_X1_remember 24 rfl) ?_
      refine lv_iconst (pc := 45) (v := 1) hx hb (tb_at tk_X1_remember 25 rfl) (by decide) ?_
      refine lv_iadd (pc := 46) hx hb (tb_at tk_X1_remember 26 rfl) ?_
      refine va_mmin (pc := 47) hx hb (B.2.2.2.1.trans hl.1.symm) B.2.2.2.2.1 (B.2.2.2.2.2.1 _ q_m_X1_29) (B.2.2.2.2.2.1 _ q_t_J9_min_7cf53) (B.2.2.2.2.2.1 _ q_n_J9) (B.2.2.2.2.2.1 _ q_c_J9_min_7cf53) (Nat.le_of_ble_eq_true rfl) (Nat.le_of_ble_eq_true rfl) (Nat.zero_le _) (Nat.zero_le _) (tb_at tk_X1_remember 27 rfl) ?_
      refine k_put (pc := 50) (T := TX1) B inG1 tyX1 tyX1_ok nmX1 hW hS 0 rfl rfl 2 (by decide) q_f_X1_26 rfl rfl rfl rfl (Nat.le_of_ble_eq_true rfl) (tb_at tk_X1_remember 28 rfl) (w_X1_remember cI cZ cQ cW z_o z_rows_a z_rows_r zr_has_q zr_left_q zr_bits_q w_o w_has_a w_left_a w_bits_a s1_j35 (if (z_known + 1) < 10 then (z_known + 1) else 10) (va_up zr_has (z_next).toNatClampNeg zr_has_10) (va_up zr_left (z_next).toNatClampNeg zr_left_10) (va_up zr_bits (z_next).toNatClampNeg zr_bits_10) (va_up zr_bitCount (z_next).toNatClampNeg zr_bitCount_10) (va_up zr_given (z_next).toNatClampNeg zr_given_10) (va_up zr_made (z_next).toNatClampNeg zr_made_10) (va_up zr_gone (z_next).toNatClampNeg zr_gone_10) (va_up zr_law (z_next).toNatClampNeg zr_law_10) w_bitCount w_given w_made w_gone w_law w_has w_left w_bits) rfl (fun H locs hW hS => ?_)
      exact hQ (s1_j35, if (z_known + 1) < 10 then (z_known + 1) else 10, va_up zr_has (z_next).toNatClampNeg zr_has_10, va_up zr_left (z_next).toNatClampNeg zr_left_10, va_up zr_bits (z_next).toNatClampNeg zr_bits_10, va_up zr_bitCount (z_next).toNatClampNeg zr_bitCount_10, va_up zr_given (z_next).toNatClampNeg zr_given_10, va_up zr_made (z_next).toNatClampNeg zr_made_10, va_up zr_gone (z_next).toNatClampNeg zr_gone_10, va_up zr_law (z_next).toNatClampNeg zr_law_10) _ _ _ 53 h hW hS (tb_at tk_X1_remember 29 rfl)
    refine lv_icmp_ge (pc := 22) (tgt := 34) hx hb (tb_at tk_X1_remember 13 rfl) (by decide) (fun cc => ?_) (fun cc => ?_)
    · have h := it_t cc h
      refine lv_iconst (pc := 34) (v := 0) hx hb (tb_at tk_X1_remember 19 rfl) (by decide) ?_
      exact w35 0 _ _ _ h hW hS (lv_sub hl [0] rfl)
    · have h := it_f cc h
      refine lv_aload_n (pc := 25) hx hb (tb_at tk_X1_remember 14 rfl) rfl (lv_at hl 0 rfl) ?_
      refine k_get (pc := 26) (v := .int z_next) (T := TX1) B inG1 hW 0 rfl rfl 1 (by decide) q_f_X1_18 rfl rfl (tb_at tk_X1_remember 15 rfl) ?_
      refine lv_iconst (pc := 29) (v := 1) hx hb (tb_at tk_X1_remember 16 rfl) (by decide) ?_
      refine lv_iadd (pc := 30) hx hb (tb_at tk_X1_remember 17 rfl) ?_
      refine lv_goto (pc := 31) (tgt := 35) hx hb (tb_at tk_X1_remember 18 rfl) (by decide) ?_
      exact w35 (z_next + 1) _ _ _ h hW hS (lv_sub hl [0] rfl)
  obtain ⟨j9, hj9, ej9⟩ := vp_in_of iq8 (by decide)
  subst ej9
  rcases (show j9 = 0 ∨ j9 = 1 ∨ j9 = 2 ∨ j9 = 3 ∨ j9 = 4 ∨ j9 = 5 ∨ j9 = 6 ∨ j9 = 7 ∨ j9 = 8 ∨ j9 = 9 by omega) with rfl | rfl | rfl | rfl | rfl | rfl | rfl | rfl | rfl | rfl
  · have ej : (nI 0).toNatClampNeg = 0 := nI_clamp (by decide)
    simp only [ej] at h kk9 ⊢
    refine k_callv (pc := 10) B (k_runVv (rest := []) (C := RX0) B (c_X0_become l dC dI cI cZ cQ cW (z_rows_r 0) (zr_has_q 0) (zr_left_q 0) (zr_bits_q 0) w_o w_has_a w_left_a w_bits_a (zr_bitCount 0) (zr_given 0) (zr_made 0) (zr_gone 0) (zr_law 0) w_bitCount w_given w_made w_gone w_law w_has (zr_has 0) w_left (zr_left 0) w_bits (zr_bits 0)  N _ res h) E0_st (fun _ _ _ => trivial) q_c_X0_become q_m_X1_22 q_i_X0_become q_s_X0_become q_n_X0 hd_X0_become ⟨rfl, rfl⟩ ⟨Nat.le_of_ble_eq_true rfl, Nat.le_of_ble_eq_true rfl⟩ hW [2, 42, 43, 3, 44, 4, 45, 5] rfl (by decide +kernel) (q0 := 0) (ci := 0) rfl rfl rfl hl.1 rfl (Nat.le_of_ble_eq_true rfl) (tb_at tk_X1_remember 6 rfl) ⟨Nat.zero_le _, Nat.zero_le _⟩) hW hS [2, 42, 43, 3, 44, 4, 45, 5] rfl [(z_rows_r 0), w_o, w_has_a, (zr_has_q 0), w_left_a, (zr_left_q 0), w_bits_a, (zr_bits_q 0)] rfl (fun _ => rfl) [none, none, some 0, some 3, some 5, some 7, none, none, none, none, none, none, none, none, none, none, none, none, none, none, none, none, none, none, none, none, none, none, none, none, none, none, none, none, none, none, none, none, none, none, none, none, some 1, some 2, some 4, some 6] (by decide +kernel) (fun u => (w_X1_remember cI cZ cQ cW z_o z_rows_a z_rows_r zr_has_q zr_left_q zr_bits_q w_o w_has_a w_left_a w_bits_a (nI 0) z_known (va_up zr_has 0 u.2.2.2.2.2.1) (va_up zr_left 0 u.2.2.2.2.2.2.1) (va_up zr_bits 0 u.2.2.2.2.2.2.2) (va_up zr_bitCount 0 u.1) (va_up zr_given 0 u.2.1) (va_up zr_made 0 u.2.2.1) (va_up zr_gone 0 u.2.2.2.1) (va_up zr_law 0 u.2.2.2.2.1) w_bitCount w_given w_made w_gone w_law w_has w_left w_bits)) (fun _ => rfl) (fun u H locs h hW hS => ?_)
    obtain ⟨zr_bitCount_10, zr_given_10, zr_made_10, zr_gone_10, zr_law_10, zr_has_10, zr_left_10, zr_bits_10⟩ := u
    dsimp only at h
    have hW : PD (dC, dI) A (w_X1_remember cI cZ cQ cW z_o z_rows_a z_rows_r zr_has_q zr_left_q zr_bits_q w_o w_has_a w_left_a w_bits_a (nI 0) z_known (va_up zr_has 0 zr_has_10) (va_up zr_left 0 zr_left_10) (va_up zr_bits 0 zr_bits_10) (va_up zr_bitCount 0 zr_bitCount_10) (va_up zr_given 0 zr_given_10) (va_up zr_made 0 zr_made_10) (va_up zr_gone 0 zr_gone_10) (va_up zr_law 0 zr_law_10) w_bitCount w_given w_made w_gone w_law w_has w_left w_bits) H := hW
    exact kk9 zr_bitCount_10 zr_given_10 zr_made_10 zr_gone_10 zr_law_10 zr_has_10 zr_left_10 zr_bits_10 H locs h hW hS
  · have ej : (nI 1).toNatClampNeg = 1 := nI_clamp (by decide)
    simp only [ej] at h kk9 ⊢
    refine k_callv (pc := 10) B (k_runVv (rest := []) (C := RX0) B (c_X0_become l dC dI cI cZ cQ cW (z_rows_r 1) (zr_has_q 1) (zr_left_q 1) (zr_bits_q 1) w_o w_has_a w_left_a w_bits_a (zr_bitCount 1) (zr_given 1) (zr_made 1) (zr_gone 1) (zr_law 1) w_bitCount w_given w_made w_gone w_law w_has (zr_has 1) w_left (zr_left 1) w_bits (zr_bits 1)  N _ res h) E0_st (fun _ _ _ => trivial) q_c_X0_become q_m_X1_22 q_i_X0_become q_s_X0_become q_n_X0 hd_X0_become ⟨rfl, rfl⟩ ⟨Nat.le_of_ble_eq_true rfl, Nat.le_of_ble_eq_true rfl⟩ hW [6, 42, 43, 7, 44, 8, 45, 9] rfl (by decide +kernel) (q0 := 0) (ci := 0) rfl rfl rfl hl.1 rfl (Nat.le_of_ble_eq_true rfl) (tb_at tk_X1_remember 6 rfl) ⟨Nat.zero_le _, Nat.zero_le _⟩) hW hS [6, 42, 43, 7, 44, 8, 45, 9] rfl [(z_rows_r 1), w_o, w_has_a, (zr_has_q 1), w_left_a, (zr_left_q 1), w_bits_a, (zr_bits_q 1)] rfl (fun _ => rfl) [none, none, none, none, none, none, some 0, some 3, some 5, some 7, none, none, none, none, none, none, none, none, none, none, none, none, none, none, none, none, none, none, none, none, none, none, none, none, none, none, none, none, none, none, none, none, some 1, some 2, some 4, some 6] (by decide +kernel) (fun u => (w_X1_remember cI cZ cQ cW z_o z_rows_a z_rows_r zr_has_q zr_left_q zr_bits_q w_o w_has_a w_left_a w_bits_a (nI 1) z_known (va_up zr_has 1 u.2.2.2.2.2.1) (va_up zr_left 1 u.2.2.2.2.2.2.1) (va_up zr_bits 1 u.2.2.2.2.2.2.2) (va_up zr_bitCount 1 u.1) (va_up zr_given 1 u.2.1) (va_up zr_made 1 u.2.2.1) (va_up zr_gone 1 u.2.2.2.1) (va_up zr_law 1 u.2.2.2.2.1) w_bitCount w_given w_made w_gone w_law w_has w_left w_bits)) (fun _ => rfl) (fun u H locs h hW hS => ?_)
    obtain ⟨zr_bitCount_10, zr_given_10, zr_made_10, zr_gone_10, zr_law_10, zr_has_10, zr_left_10, zr_bits_10⟩ := u
    dsimp only at h
    have hW : PD (dC, dI) A (w_X1_remember cI cZ cQ cW z_o z_rows_a z_rows_r zr_has_q zr_left_q zr_bits_q w_o w_has_a w_left_a w_bits_a (nI 1) z_known (va_up zr_has 1 zr_has_10) (va_up zr_left 1 zr_left_10) (va_up zr_bits 1 zr_bits_10) (va_up zr_bitCount 1 zr_bitCount_10) (va_up zr_given 1 zr_given_10) (va_up zr_made 1 zr_made_10) (va_up zr_gone 1 zr_gone_10) (va_up zr_law 1 zr_law_10) w_bitCount w_given w_made w_gone w_law w_has w_left w_bits) H := hW
    exact kk9 zr_bitCount_10 zr_given_10 zr_made_10 zr_gone_10 zr_law_10 zr_has_10 zr_left_10 zr_bits_10 H locs h hW hS
  · have ej : (nI 2).toNatClampNeg = 2 := nI_clamp (by decide)
    simp only [ej] at h kk9 ⊢
    refine k_callv (pc := 10) B (k_runVv (rest := []) (C := RX0) B (c_X0_become l dC dI cI cZ cQ cW (z_rows_r 2) (zr_has_q 2) (zr_left_q 2) (zr_bits_q 2) w_o w_has_a w_left_a w_bits_a (zr_bitCount 2) (zr_given 2) (zr_made 2) (zr_gone 2) (zr_law 2) w_bitCount w_given w_made w_gone w_law w_has (zr_has 2) w_left (zr_left 2) w_bits (zr_bits 2)  N _ res h) E0_st (fun _ _ _ => trivial) q_c_X0_become q_m_X1_22 q_i_X0_become q_s_X0_become q_n_X0 hd_X0_become ⟨rfl, rfl⟩ ⟨Nat.le_of_ble_eq_true rfl, Nat.le_of_ble_eq_true rfl⟩ hW [10, 42, 43, 11, 44, 12, 45, 13] rfl (by decide +kernel) (q0 := 0) (ci := 0) rfl rfl rfl hl.1 rfl (Nat.le_of_ble_eq_true rfl) (tb_at tk_X1_remember 6 rfl) ⟨Nat.zero_le _, Nat.zero_le _⟩) hW hS [10, 42, 43, 11, 44, 12, 45, 13] rfl [(z_rows_r 2), w_o, w_has_a, (zr_has_q 2), w_left_a, (zr_left_q 2), w_bits_a, (zr_bits_q 2)] rfl (fun _ => rfl) [none, none, none, none, none, none, none, none, none, none, some 0, some 3, some 5, some 7, none, none, none, none, none, none, none, none, none, none, none, none, none, none, none, none, none, none, none, none, none, none, none, none, none, none, none, none, some 1, some 2, some 4, some 6] (by decide +kernel) (fun u => (w_X1_remember cI cZ cQ cW z_o z_rows_a z_rows_r zr_has_q zr_left_q zr_bits_q w_o w_has_a w_left_a w_bits_a (nI 2) z_known (va_up zr_has 2 u.2.2.2.2.2.1) (va_up zr_left 2 u.2.2.2.2.2.2.1) (va_up zr_bits 2 u.2.2.2.2.2.2.2) (va_up zr_bitCount 2 u.1) (va_up zr_given 2 u.2.1) (va_up zr_made 2 u.2.2.1) (va_up zr_gone 2 u.2.2.2.1) (va_up zr_law 2 u.2.2.2.2.1) w_bitCount w_given w_made w_gone w_law w_has w_left w_bits)) (fun _ => rfl) (fun u H locs h hW hS => ?_)
    obtain ⟨zr_bitCount_10, zr_given_10, zr_made_10, zr_gone_10, zr_law_10, zr_has_10, zr_left_10, zr_bits_10⟩ := u
    dsimp only at h
    have hW : PD (dC, dI) A (w_X1_remember cI cZ cQ cW z_o z_rows_a z_rows_r zr_has_q zr_left_q zr_bits_q w_o w_has_a w_left_a w_bits_a (nI 2) z_known (va_up zr_has 2 zr_has_10) (va_up zr_left 2 zr_left_10) (va_up zr_bits 2 zr_bits_10) (va_up zr_bitCount 2 zr_bitCount_10) (va_up zr_given 2 zr_given_10) (va_up zr_made 2 zr_made_10) (va_up zr_gone 2 zr_gone_10) (va_up zr_law 2 zr_law_10) w_bitCount w_given w_made w_gone w_law w_has w_left w_bits) H := hW
    exact kk9 zr_bitCount_10 zr_given_10 zr_made_10 zr_gone_10 zr_law_10 zr_has_10 zr_left_10 zr_bits_10 H locs h hW hS
  · have ej : (nI 3).toNatClampNeg = 3 := nI_clamp (by decide)
    simp only [ej] at h kk9 ⊢
    refine k_callv (pc := 10) B (k_runVv (rest := []) (C := RX0) B (c_X0_become l dC dI cI cZ cQ cW (z_rows_r 3) (zr_has_q 3) (zr_left_q 3) (zr_bits_q 3) w_o w_has_a w_left_a w_bits_a (zr_bitCount 3) (zr_given 3) (zr_made 3) (zr_gone 3) (zr_law 3) w_bitCount w_given w_made w_gone w_law w_has (zr_has 3) w_left (zr_left 3) w_bits (zr_bits 3)  N _ res h) E0_st (fun _ _ _ => trivial) q_c_X0_become q_m_X1_22 q_i_X0_become q_s_X0_become q_n_X0 hd_X0_become ⟨rfl, rfl⟩ ⟨Nat.le_of_ble_eq_true rfl, Nat.le_of_ble_eq_true rfl⟩ hW [14, 42, 43, 15, 44, 16, 45, 17] rfl (by decide +kernel) (q0 := 0) (ci := 0) rfl rfl rfl hl.1 rfl (Nat.le_of_ble_eq_true rfl) (tb_at tk_X1_remember 6 rfl) ⟨Nat.zero_le _, Nat.zero_le _⟩) hW hS [14, 42, 43, 15, 44, 16, 45, 17] rfl [(z_rows_r 3), w_o, w_has_a, (zr_has_q 3), w_left_a, (zr_left_q 3), w_bits_a, (zr_bits_q 3)] rfl (fun _ => rfl) [none, none, none, none, none, none, none, none, none, none, none, none, none, none, some 0, some 3, some 5, some 7, none, none, none, none, none, none, none, none, none, none, none, none, none, none, none, none, none, none, none, none, none, none, none, none, some 1, some 2, some 4, some 6] (by decide +kernel) (fun u => (w_X1_remember cI cZ cQ cW z_o z_rows_a z_rows_r zr_has_q zr_left_q zr_bits_q w_o w_has_a w_left_a w_bits_a (nI 3) z_known (va_up zr_has 3 u.2.2.2.2.2.1) (va_up zr_left 3 u.2.2.2.2.2.2.1) (va_up zr_bits 3 u.2.2.2.2.2.2.2) (va_up zr_bitCount 3 u.1) (va_up zr_given 3 u.2.1) (va_up zr_made 3 u.2.2.1) (va_up zr_gone 3 u.2.2.2.1) (va_up zr_law 3 u.2.2.2.2.1) w_bitCount w_given w_made w_gone w_law w_has w_left w_bits)) (fun _ => rfl) (fun u H locs h hW hS => ?_)
    obtain ⟨zr_bitCount_10, zr_given_10, zr_made_10, zr_gone_10, zr_law_10, zr_has_10, zr_left_10, zr_bits_10⟩ := u
    dsimp only at h
    have hW : PD (dC, dI) A (w_X1_remember cI cZ cQ cW z_o z_rows_a z_rows_r zr_has_q zr_left_q zr_bits_q w_o w_has_a w_left_a w_bits_a (nI 3) z_known (va_up zr_has 3 zr_has_10) (va_up zr_left 3 zr_left_10) (va_up zr_bits 3 zr_bits_10) (va_up zr_bitCount 3 zr_bitCount_10) (va_up zr_given 3 zr_given_10) (va_up zr_made 3 zr_made_10) (va_up zr_gone 3 zr_gone_10) (va_up zr_law 3 zr_law_10) w_bitCount w_given w_made w_gone w_law w_has w_left w_bits) H := hW
    exact kk9 zr_bitCount_10 zr_given_10 zr_made_10 zr_gone_10 zr_law_10 zr_has_10 zr_left_10 zr_bits_10 H locs h hW hS
  · have ej : (nI 4).toNatClampNeg = 4 := nI_clamp (by decide)
    simp only [ej] at h kk9 ⊢
    refine k_callv (pc := 10) B (k_runVv (rest := []) (C := RX0) B (c_X0_become l dC dI cI cZ cQ cW (z_rows_r 4) (zr_has_q 4) (zr_left_q 4) (zr_bits_q 4) w_o w_has_a w_left_a w_bits_a (zr_bitCount 4) (zr_given 4) (zr_made 4) (zr_gone 4) (zr_law 4) w_bitCount w_given w_made w_gone w_law w_has (zr_has 4) w_left (zr_left 4) w_bits (zr_bits 4)  N _ res h) E0_st (fun _ _ _ => trivial) q_c_X0_become q_m_X1_22 q_i_X0_become q_s_X0_become q_n_X0 hd_X0_become ⟨rfl, rfl⟩ ⟨Nat.le_of_ble_eq_true rfl, Nat.le_of_ble_eq_true rfl⟩ hW [18, 42, 43, 19, 44, 20, 45, 21] rfl (by decide +kernel) (q0 := 0) (ci := 0) rfl rfl rfl hl.1 rfl (Nat.le_of_ble_eq_true rfl) (tb_at tk_X1_remember 6 rfl) ⟨Nat.zero_le _, Nat.zero_le _⟩) hW hS [18, 42, 43, 19, 44, 20, 45, 21] rfl [(z_rows_r 4), w_o, w_has_a, (zr_has_q 4), w_left_a, (zr_left_q 4), w_bits_a, (zr_bits_q 4)] rfl (fun _ => rfl) [none, none, none, none, none, none, none, none, none, none, none, none, none, none, none, none, none, none, some 0, some 3, some 5, some 7, none, none, none, none, none, none, none, none, none, none, none, none, none, none, none, none, none, none, none, none, some 1, some 2, some 4, some 6] (by decide +kernel) (fun u => (w_X1_remember cI cZ cQ cW z_o z_rows_a z_rows_r zr_has_q zr_left_q zr_bits_q w_o w_has_a w_left_a w_bits_a (nI 4) z_known (va_up zr_has 4 u.2.2.2.2.2.1) (va_up zr_left 4 u.2.2.2.2.2.2.1) (va_up zr_bits 4 u.2.2.2.2.2.2.2) (va_up zr_bitCount 4 u.1) (va_up zr_given 4 u.2.1) (va_up zr_made 4 u.2.2.1) (va_up zr_gone 4 u.2.2.2.1) (va_up zr_law 4 u.2.2.2.2.1) w_bitCount w_given w_made w_gone w_law w_has w_left w_bits)) (fun _ => rfl) (fun u H locs h hW hS => ?_)
    obtain ⟨zr_bitCount_10, zr_given_10, zr_made_10, zr_gone_10, zr_law_10, zr_has_10, zr_left_10, zr_bits_10⟩ := u
    dsimp only at h
    have hW : PD (dC, dI) A (w_X1_remember cI cZ cQ cW z_o z_rows_a z_rows_r zr_has_q zr_left_q zr_bits_q w_o w_has_a w_left_a w_bits_a (nI 4) z_known (va_up zr_has 4 zr_has_10) (va_up zr_left 4 zr_left_10) (va_up zr_bits 4 zr_bits_10) (va_up zr_bitCount 4 zr_bitCount_10) (va_up zr_given 4 zr_given_10) (va_up zr_made 4 zr_made_10) (va_up zr_gone 4 zr_gone_10) (va_up zr_law 4 zr_law_10) w_bitCount w_given w_made w_gone w_law w_has w_left w_bits) H := hW
    exact kk9 zr_bitCount_10 zr_given_10 zr_made_10 zr_gone_10 zr_law_10 zr_has_10 zr_left_10 zr_bits_10 H locs h hW hS
  · have ej : (nI 5).toNatClampNeg = 5 := nI_clamp (by decide)
    simp only [ej] at h kk9 ⊢
    refine k_callv (pc := 10) B (k_runVv (rest := []) (C := RX0) B (c_X0_become l dC dI cI cZ cQ cW (z_rows_r 5) (zr_has_q 5) (zr_left_q 5) (zr_bits_q 5) w_o w_has_a w_left_a w_bits_a (zr_bitCount 5) (zr_given 5) (zr_made 5) (zr_gone 5) (zr_law 5) w_bitCount w_given w_made w_gone w_law w_has (zr_has 5) w_left (zr_left 5) w_bits (zr_bits 5)  N _ res h) E0_st (fun _ _ _ => trivial) q_c_X0_become q_m_X1_22 q_i_X0_become q_s_X0_become q_n_X0 hd_X0_become ⟨rfl, rfl⟩ ⟨Nat.le_of_ble_eq_true rfl, Nat.le_of_ble_eq_true rfl⟩ hW [22, 42, 43, 23, 44, 24, 45, 25] rfl (by decide +kernel) (q0 := 0) (ci := 0) rfl rfl rfl hl.1 rfl (Nat.le_of_ble_eq_true rfl) (tb_at tk_X1_remember 6 rfl) ⟨Nat.zero_le _, Nat.zero_le _⟩) hW hS [22, 42, 43, 23, 44, 24, 45, 25] rfl [(z_rows_r 5), w_o, w_has_a, (zr_has_q 5), w_left_a, (zr_left_q 5), w_bits_a, (zr_bits_q 5)] rfl (fun _ => rfl) [none, none, none, none, none, none, none, none, none, none, none, none, none, none, none, none, none, none, none, none, none, none, some 0, some 3, some 5, some 7, none, none, none, none, none, none, none, none, none, none, none, none, none, none, none, none, some 1, some 2, some 4, some 6] (by decide +kernel) (fun u => (w_X1_remember cI cZ cQ cW z_o z_rows_a z_rows_r zr_has_q zr_left_q zr_bits_q w_o w_has_a w_left_a w_bits_a (nI 5) z_known (va_up zr_has 5 u.2.2.2.2.2.1) (va_up zr_left 5 u.2.2.2.2.2.2.1) (va_up zr_bits 5 u.2.2.2.2.2.2.2) (va_up zr_bitCount 5 u.1) (va_up zr_given 5 u.2.1) (va_up zr_made 5 u.2.2.1) (va_up zr_gone 5 u.2.2.2.1) (va_up zr_law 5 u.2.2.2.2.1) w_bitCount w_given w_made w_gone w_law w_has w_left w_bits)) (fun _ => rfl) (fun u H locs h hW hS => ?_)
    obtain ⟨zr_bitCount_10, zr_given_10, zr_made_10, zr_gone_10, zr_law_10, zr_has_10, zr_left_10, zr_bits_10⟩ := u
    dsimp only at h
    have hW : PD (dC, dI) A (w_X1_remember cI cZ cQ cW z_o z_rows_a z_rows_r zr_has_q zr_left_q zr_bits_q w_o w_has_a w_left_a w_bits_a (nI 5) z_known (va_up zr_has 5 zr_has_10) (va_up zr_left 5 zr_left_10) (va_up zr_bits 5 zr_bits_10) (va_up zr_bitCount 5 zr_bitCount_10) (va_up zr_given 5 zr_given_10) (va_up zr_made 5 zr_made_10) (va_up zr_gone 5 zr_gone_10) (va_up zr_law 5 zr_law_10) w_bitCount w_given w_made w_gone w_law w_has w_left w_bits) H := hW
    exact kk9 zr_bitCount_10 zr_given_10 zr_made_10 zr_gone_10 zr_law_10 zr_has_10 zr_left_10 zr_bits_10 H locs h hW hS
  · have ej : (nI 6).toNatClampNeg = 6 := nI_clamp (by decide)
    simp only [ej] at h kk9 ⊢
    refine k_callv (pc := 10) B (k_runVv (rest := []) (C := RX0) B (c_X0_become l dC dI cI cZ cQ cW (z_rows_r 6) (zr_has_q 6) (zr_left_q 6) (zr_bits_q 6) w_o w_has_a w_left_a w_bits_a (zr_bitCount 6) (zr_given 6) (zr_made 6) (zr_gone 6) (zr_law 6) w_bitCount w_given w_made w_gone w_law w_has (zr_has 6) w_left (zr_left 6) w_bits (zr_bits 6)  N _ res h) E0_st (fun _ _ _ => trivial) q_c_X0_become q_m_X1_22 q_i_X0_become q_s_X0_become q_n_X0 hd_X0_become ⟨rfl, rfl⟩ ⟨Nat.le_of_ble_eq_true rfl, Nat.le_of_ble_eq_true rfl⟩ hW [26, 42, 43, 27, 44, 28, 45, 29] rfl (by decide +kernel) (q0 := 0) (ci := 0) rfl rfl rfl hl.1 rfl (Nat.le_of_ble_eq_true rfl) (tb_at tk_X1_remember 6 rfl) ⟨Nat.zero_le _, Nat.zero_le _⟩) hW hS [26, 42, 43, 27, 44, 28, 45, 29] rfl [(z_rows_r 6), w_o, w_has_a, (zr_has_q 6), w_left_a, (zr_left_q 6), w_bits_a, (zr_bits_q 6)] rfl (fun _ => rfl) [none, none, none, none, none, none, none, none, none, none, none, none, none, none, none, none, none, none, none, none, none, none, none, none, none, none, some 0, some 3, some 5, some 7, none, none, none, none, none, none, none, none, none, none, none, none, some 1, some 2, some 4, some 6] (by decide +kernel) (fun u => (w_X1_remember cI cZ cQ cW z_o z_rows_a z_rows_r zr_has_q zr_left_q zr_bits_q w_o w_has_a w_left_a w_bits_a (nI 6) z_known (va_up zr_has 6 u.2.2.2.2.2.1) (va_up zr_left 6 u.2.2.2.2.2.2.1) (va_up zr_bits 6 u.2.2.2.2.2.2.2) (va_up zr_bitCount 6 u.1) (va_up zr_given 6 u.2.1) (va_up zr_made 6 u.2.2.1) (va_up zr_gone 6 u.2.2.2.1) (va_up zr_law 6 u.2.2.2.2.1) w_bitCount w_given w_made w_gone w_law w_has w_left w_bits)) (fun _ => rfl) (fun u H locs h hW hS => ?_)
    obtain ⟨zr_bitCount_10, zr_given_10, zr_made_10, zr_gone_10, zr_law_10, zr_has_10, zr_left_10, zr_bits_10⟩ := u
    dsimp only at h
    have hW : PD (dC, dI) A (w_X1_remember cI cZ cQ cW z_o z_rows_a z_rows_r zr_has_q zr_left_q zr_bits_q w_o w_has_a w_left_a w_bits_a (nI 6) z_known (va_up zr_has 6 zr_has_10) (va_up zr_left 6 zr_left_10) (va_up zr_bits 6 zr_bits_10) (va_up zr_bitCount 6 zr_bitCount_10) (va_up zr_given 6 zr_given_10) (va_up zr_made 6 zr_made_10) (va_up zr_gone 6 zr_gone_10) (va_up zr_law 6 zr_law_10) w_bitCount w_given w_made w_gone w_law w_has w_left w_bits) H := hW
    exact kk9 zr_bitCount_10 zr_given_10 zr_made_10 zr_gone_10 zr_law_10 zr_has_10 zr_left_10 zr_bits_10 H locs h hW hS
  · have ej : (nI 7).toNatClampNeg = 7 := nI_clamp (by decide)
    simp only [ej] at h kk9 ⊢
    refine k_callv (pc := 10) B (k_runVv (rest := []) (C := RX0) B (c_X0_become l dC dI cI cZ cQ cW (z_rows_r 7) (zr_has_q 7) (zr_left_q 7) (zr_bits_q 7) w_o w_has_a w_left_a w_bits_a (zr_bitCount 7) (zr_given 7) (zr_made 7) (zr_gone 7) (zr_law 7) w_bitCount w_given w_made w_gone w_law w_has (zr_has 7) w_left (zr_left 7) w_bits (zr_bits 7)  N _ res h) E0_st (fun _ _ _ => trivial) q_c_X0_become q_m_X1_22 q_i_X0_become q_s_X0_become q_n_X0 hd_X0_become ⟨rfl, rfl⟩ ⟨Nat.le_of_ble_eq_true rfl, Nat.le_of_ble_eq_true rfl⟩ hW [30, 42, 43, 31, 44, 32, 45, 33] rfl (by decide +kernel) (q0 := 0) (ci := 0) rfl rfl rfl hl.1 rfl (Nat.le_of_ble_eq_true rfl) (tb_at tk_X1_remember 6 rfl) ⟨Nat.zero_le _, Nat.zero_le _⟩) hW hS [30, 42, 43, 31, 44, 32, 45, 33] rfl [(z_rows_r 7), w_o, w_has_a, (zr_has_q 7), w_left_a, (zr_left_q 7), w_bits_a, (zr_bits_q 7)] rfl (fun _ => rfl) [none, none, none, none, none, none, none, none, none, none, none, none, none, none, none, none, none, none, none, none, none, none, none, none, none, none, none, none, none, none, some 0, some 3, some 5, some 7, none, none, none, none, none, none, none, none, some 1, some 2, some 4, some 6] (by decide +kernel) (fun u => (w_X1_remember cI cZ cQ cW z_o z_rows_a z_rows_r zr_has_q zr_left_q zr_bits_q w_o w_has_a w_left_a w_bits_a (nI 7) z_known (va_up zr_has 7 u.2.2.2.2.2.1) (va_up zr_left 7 u.2.2.2.2.2.2.1) (va_up zr_bits 7 u.2.2.2.2.2.2.2) (va_up zr_bitCount 7 u.1) (va_up zr_given 7 u.2.1) (va_up zr_made 7 u.2.2.1) (va_up zr_gone 7 u.2.2.2.1) (va_up zr_law 7 u.2.2.2.2.1) w_bitCount w_given w_made w_gone w_law w_has w_left w_bits)) (fun _ => rfl) (fun u H locs h hW hS => ?_)
    obtain ⟨zr_bitCount_10, zr_given_10, zr_made_10, zr_gone_10, zr_law_10, zr_has_10, zr_left_10, zr_bits_10⟩ := u
    dsimp only at h
    have hW : PD (dC, dI) A (w_X1_remember cI cZ cQ cW z_o z_rows_a z_rows_r zr_has_q zr_left_q zr_bits_q w_o w_has_a w_left_a w_bits_a (nI 7) z_known (va_up zr_has 7 zr_has_10) (va_up zr_left 7 zr_left_10) (va_up zr_bits 7 zr_bits_10) (va_up zr_bitCount 7 zr_bitCount_10) (va_up zr_given 7 zr_given_10) (va_up zr_made 7 zr_made_10) (va_up zr_gone 7 zr_gone_10) (va_up zr_law 7 zr_law_10) w_bitCount w_given w_made w_gone w_law w_has w_left w_bits) H := hW
    exact kk9 zr_bitCount_10 zr_given_10 zr_made_10 zr_gone_10 zr_law_10 zr_has_10 zr_left_10 zr_bits_10 H locs h hW hS
  · have ej : (nI 8).toNatClampNeg = 8 := nI_clamp (by decide)
    simp only [ej] at h kk9 ⊢
    refine k_callv (pc := 10) B (k_runVv (rest := []) (C := RX0) B (c_X0_become l dC dI cI cZ cQ cW (z_rows_r 8) (zr_has_q 8) (zr_left_q 8) (zr_bits_q 8) w_o w_has_a w_left_a w_bits_a (zr_bitCount 8) (zr_given 8) (zr_made 8) (zr_gone 8) (zr_law 8) w_bitCount w_given w_made w_gone w_law w_has (zr_has 8) w_left (zr_left 8) w_bits (zr_bits 8)  N _ res h) E0_st (fun _ _ _ => trivial) q_c_X0_become q_m_X1_22 q_i_X0_become q_s_X0_become q_n_X0 hd_X0_become ⟨rfl, rfl⟩ ⟨Nat.le_of_ble_eq_true rfl, Nat.le_of_ble_eq_true rfl⟩ hW [34, 42, 43, 35, 44, 36, 45, 37] rfl (by decide +kernel) (q0 := 0) (ci := 0) rfl rfl rfl hl.1 rfl (Nat.le_of_ble_eq_true rfl) (tb_at tk_X1_remember 6 rfl) ⟨Nat.zero_le _, Nat.zero_le _⟩) hW hS [34, 42, 43, 35, 44, 36, 45, 37] rfl [(z_rows_r 8), w_o, w_has_a, (zr_has_q 8), w_left_a, (zr_left_q 8), w_bits_a, (zr_bits_q 8)] rfl (fun _ => rfl) [none, none, none, none, none, none, none, none, none, none, none, none, none, none, none, none, none, none, none, none, none, none, none, none, none, none, none, none, none, none, none, none, none, none, some 0, some 3, some 5, some 7, none, none, none, none, some 1, some 2, some 4, some 6] (by decide +kernel) (fun u => (w_X1_remember cI cZ cQ cW z_o z_rows_a z_rows_r zr_has_q zr_left_q zr_bits_q w_o w_has_a w_left_a w_bits_a (nI 8) z_known (va_up zr_has 8 u.2.2.2.2.2.1) (va_up zr_left 8 u.2.2.2.2.2.2.1) (va_up zr_bits 8 u.2.2.2.2.2.2.2) (va_up zr_bitCount 8 u.1) (va_up zr_given 8 u.2.1) (va_up zr_made 8 u.2.2.1) (va_up zr_gone 8 u.2.2.2.1) (va_up zr_law 8 u.2.2.2.2.1) w_bitCount w_given w_made w_gone w_law w_has w_left w_bits)) (fun _ => rfl) (fun u H locs h hW hS => ?_)
    obtain ⟨zr_bitCount_10, zr_given_10, zr_made_10, zr_gone_10, zr_law_10, zr_has_10, zr_left_10, zr_bits_10⟩ := u
    dsimp only at h
    have hW : PD (dC, dI) A (w_X1_remember cI cZ cQ cW z_o z_rows_a z_rows_r zr_has_q zr_left_q zr_bits_q w_o w_has_a w_left_a w_bits_a (nI 8) z_known (va_up zr_has 8 zr_has_10) (va_up zr_left 8 zr_left_10) (va_up zr_bits 8 zr_bits_10) (va_up zr_bitCount 8 zr_bitCount_10) (va_up zr_given 8 zr_given_10) (va_up zr_made 8 zr_made_10) (va_up zr_gone 8 zr_gone_10) (va_up zr_law 8 zr_law_10) w_bitCount w_given w_made w_gone w_law w_has w_left w_bits) H := hW
    exact kk9 zr_bitCount_10 zr_given_10 zr_made_10 zr_gone_10 zr_law_10 zr_has_10 zr_left_10 zr_bits_10 H locs h hW hS
  · have ej : (nI 9).toNatClampNeg = 9 := nI_clamp (by decide)
    simp only [ej] at h kk9 ⊢
    refine k_callv (pc := 10) B (k_runVv (rest := []) (C := RX0) B (c_X0_become l dC dI cI cZ cQ cW (z_rows_r 9) (zr_has_q 9) (zr_left_q 9) (zr_bits_q 9) w_o w_has_a w_left_a w_bits_a (zr_bitCount 9) (zr_given 9) (zr_made 9) (zr_gone 9) (zr_law 9) w_bitCount w_given w_made w_gone w_law w_has (zr_has 9) w_left (zr_left 9) w_bits (zr_bits 9)  N _ res h) E0_st (fun _ _ _ => trivial) q_c_X0_become q_m_X1_22 q_i_X0_become q_s_X0_become q_n_X0 hd_X0_become ⟨rfl, rfl⟩ ⟨Nat.le_of_ble_eq_true rfl, Nat.le_of_ble_eq_true rfl⟩ hW [38, 42, 43, 39, 44, 40, 45, 41] rfl (by decide +kernel) (q0 := 0) (ci := 0) rfl rfl rfl hl.1 rfl (Nat.le_of_ble_eq_true rfl) (tb_at tk_X1_remember 6 rfl) ⟨Nat.zero_le _, Nat.zero_le _⟩) hW hS [38, 42, 43, 39, 44, 40, 45, 41] rfl [(z_rows_r 9), w_o, w_has_a, (zr_has_q 9), w_left_a, (zr_left_q 9), w_bits_a, (zr_bits_q 9)] rfl (fun _ => rfl) [none, none, none, none, none, none, none, none, none, none, none, none, none, none, none, none, none, none, none, none, none, none, none, none, none, none, none, none, none, none, none, none, none, none, none, none, none, none, some 0, some 3, some 5, some 7, some 1, some 2, some 4, some 6] (by decide +kernel) (fun u => (w_X1_remember cI cZ cQ cW z_o z_rows_a z_rows_r zr_has_q zr_left_q zr_bits_q w_o w_has_a w_left_a w_bits_a (nI 9) z_known (va_up zr_has 9 u.2.2.2.2.2.1) (va_up zr_left 9 u.2.2.2.2.2.2.1) (va_up zr_bits 9 u.2.2.2.2.2.2.2) (va_up zr_bitCount 9 u.1) (va_up zr_given 9 u.2.1) (va_up zr_made 9 u.2.2.1) (va_up zr_gone 9 u.2.2.2.1) (va_up zr_law 9 u.2.2.2.2.1) w_bitCount w_given w_made w_gone w_law w_has w_left w_bits)) (fun _ => rfl) (fun u H locs h hW hS => ?_)
    obtain ⟨zr_bitCount_10, zr_given_10, zr_made_10, zr_gone_10, zr_law_10, zr_has_10, zr_left_10, zr_bits_10⟩ := u
    dsimp only at h
    have hW : PD (dC, dI) A (w_X1_remember cI cZ cQ cW z_o z_rows_a z_rows_r zr_has_q zr_left_q zr_bits_q w_o w_has_a w_left_a w_bits_a (nI 9) z_known (va_up zr_has 9 zr_has_10) (va_up zr_left 9 zr_left_10) (va_up zr_bits 9 zr_bits_10) (va_up zr_bitCount 9 zr_bitCount_10) (va_up zr_given 9 zr_given_10) (va_up zr_made 9 zr_made_10) (va_up zr_gone 9 zr_gone_10) (va_up zr_law 9 zr_law_10) w_bitCount w_given w_made w_gone w_law w_has w_left w_bits) H := hW
    exact kk9 zr_bitCount_10 zr_given_10 zr_made_10 zr_gone_10 zr_law_10 zr_has_10 zr_left_10 zr_bits_10 H locs h hW hS
def f_X1_restore_j28 {ρ : Type} (z_known : Int32) (w_has : Nat → Int32) (w_left : Nat → Int32) (w_bits : Nat → Int32) (zr_has : Nat → Nat → Int32) (zr_left : Nat → Nat → Int32) (zr_bits : Nat → Nat → Int32) (zr_bitCount : Nat → Int32) (zr_given : Nat → Int32) (zr_made : Nat → Int32) (zr_gone : Nat → Int32) (zr_law : Nat → Int32) (k : Int32 → Int32 → Int32 → Int32 → Int32 → Int32 → Int32 → Int32 → (Nat → Int32) → (Nat → Int32) → (Nat → Int32) → Option ρ) (N : Nat) (s1_j28 : Int32) : Option ρ := ck (ivi s1_j28 10) (f_X0_become N (zr_bitCount (s1_j28).toNatClampNeg) (zr_given (s1_j28).toNatClampNeg) (zr_made (s1_j28).toNatClampNeg) (zr_gone (s1_j28).toNatClampNeg) (zr_law (s1_j28).toNatClampNeg) (zr_has (s1_j28).toNatClampNeg) w_has (zr_left (s1_j28).toNatClampNeg) w_left (zr_bits (s1_j28).toNatClampNeg) w_bits (fun w_bitCount_51 w_given_51 w_made_51 w_gone_51 w_law_51 w_has_51 w_left_51 w_bits_51 => k 1 s1_j28 (z_known - 1) w_bitCount_51 w_given_51 w_made_51 w_gone_51 w_law_51 w_has_51 w_left_51 w_bits_51))
def f_X1_restore {ρ : Type} (N : Nat) (z_next : Int32) (z_known : Int32) (zr_has : Nat → Nat → Int32) (zr_left : Nat → Nat → Int32) (zr_bits : Nat → Nat → Int32) (zr_bitCount : Nat → Int32) (zr_given : Nat → Int32) (zr_made : Nat → Int32) (zr_gone : Nat → Int32) (zr_law : Nat → Int32) (w_bitCount : Int32) (w_given : Int32) (w_made : Int32) (w_gone : Int32) (w_law : Int32) (w_has : Nat → Int32) (w_left : Nat → Int32) (w_bits : Nat → Int32) (k : Int32 → Int32 → Int32 → Int32 → Int32 → Int32 → Int32 → Int32 → (Nat → Int32) → (Nat → Int32) → (Nat → Int32) → Option ρ) : Option ρ := if z_known = 0 then (k 0 z_next z_known w_bitCount w_given w_made w_gone w_law w_has w_left w_bits) else (if z_next ≤ 0 then (f_X1_restore_j28 z_known w_has w_left w_bits zr_has zr_left zr_bits zr_bitCount zr_given zr_made zr_gone zr_law k N 9) else (f_X1_restore_j28 z_known w_has w_left w_bits zr_has zr_left zr_bits zr_bitCount zr_given zr_made zr_gone zr_law k N (z_next - 1)))
abbrev w_X1_restore (cI cZ cQ cW : ClassId) (z_o : Nat) (z_rows_a : Nat) (z_rows_r : Nat → Nat) (zr_has_q : Nat → Nat) (zr_left_q : Nat → Nat) (zr_bits_q : Nat → Nat) (w_o : Nat) (w_has_a : Nat) (w_left_a : Nat) (w_bits_a : Nat) (z_next : Int32) (z_known : Int32) (zr_has : Nat → Nat → Int32) (zr_left : Nat → Nat → Int32) (zr_bits : Nat → Nat → Int32) (zr_bitCount : Nat → Int32) (zr_given : Nat → Int32) (zr_made : Nat → Int32) (zr_gone : Nat → Int32) (zr_law : Nat → Int32) (w_bitCount : Int32) (w_given : Int32) (w_made : Int32) (w_gone : Int32) (w_law : Int32) (w_has : Nat → Int32) (w_left : Nat → Int32) (w_bits : Nat → Int32) : va_W := [(z_o, .inr (1, [.ref z_rows_a, .int z_next, .int z_known])), (z_rows_a, .inl (cQ, 10, .inr (.inr (.inr (.inr (fun i => if i < 10 then some (z_rows_r i) else none)))))), (z_rows_r 0, .inr (0, [.ref (zr_has_q 0), .ref (zr_left_q 0), .ref (zr_bits_q 0), .int (zr_bitCount 0), .int (zr_given 0), .int (zr_made 0), .int (zr_gone 0), .int (zr_law 0)])), (zr_has_q 0, .inl (cI, 6, .inl (zr_has 0))), (zr_left_q 0, .inl (cI, 6, .inl (zr_left 0))), (zr_bits_q 0, .inl (cI, 8, .inl (zr_bits 0))), (z_rows_r 1, .inr (0, [.ref (zr_has_q 1), .ref (zr_left_q 1), .ref (zr_bits_q 1), .int (zr_bitCount 1), .int (zr_given 1), .int (zr_made 1), .int (zr_gone 1), .int (zr_law 1)])), (zr_has_q 1, .inl (cI, 6, .inl (zr_has 1))), (zr_left_q 1, .inl (cI, 6, .inl (zr_left 1))), (zr_bits_q 1, .inl (cI, 8, .inl (zr_bits 1))), (z_rows_r 2, .inr (0, [.ref (zr_has_q 2), .ref (zr_left_q 2), .ref (zr_bits_q 2), .int (zr_bitCount 2), .int (zr_given 2), .int (zr_made 2), .int (zr_gone 2), .int (zr_law 2)])), (zr_has_q 2, .inl (cI, 6, .inl (zr_has 2))), (zr_left_q 2, .inl (cI, 6, .inl (zr_left 2))), (zr_bits_q 2, .inl (cI, 8, .inl (zr_bits 2))), (z_rows_r 3, .inr (0, [.ref (zr_has_q 3), .ref (zr_left_q 3), .ref (zr_bits_q 3), .int (zr_bitCount 3), .int (zr_given 3), .int (zr_made 3), .int (zr_gone 3), .int (zr_law 3)])), (zr_has_q 3, .inl (cI, 6, .inl (zr_has 3))), (zr_left_q 3, .inl (cI, 6, .inl (zr_left 3))), (zr_bits_q 3, .inl (cI, 8, .inl (zr_bits 3))), (z_rows_r 4, .inr (0, [.ref (zr_has_q 4), .ref (zr_left_q 4), .ref (zr_bits_q 4), .int (zr_bitCount 4), .int (zr_given 4), .int (zr_made 4), .int (zr_gone 4), .int (zr_law 4)])), (zr_has_q 4, .inl (cI, 6, .inl (zr_has 4))), (zr_left_q 4, .inl (cI, 6, .inl (zr_left 4))), (zr_bits_q 4, .inl (cI, 8, .inl (zr_bits 4))), (z_rows_r 5, .inr (0, [.ref (zr_has_q 5), .ref (zr_left_q 5), .ref (zr_bits_q 5), .int (zr_bitCount 5), .int (zr_given 5), .int (zr_made 5), .int (zr_gone 5), .int (zr_law 5)])), (zr_has_q 5, .inl (cI, 6, .inl (zr_has 5))), (zr_left_q 5, .inl (cI, 6, .inl (zr_left 5))), (zr_bits_q 5, .inl (cI, 8, .inl (zr_bits 5))), (z_rows_r 6, .inr (0, [.ref (zr_has_q 6), .ref (zr_left_q 6), .ref (zr_bits_q 6), .int (zr_bitCount 6), .int (zr_given 6), .int (zr_made 6), .int (zr_gone 6), .int (zr_law 6)])), (zr_has_q 6, .inl (cI, 6, .inl (zr_has 6))), (zr_left_q 6, .inl (cI, 6, .inl (zr_left 6))), (zr_bits_q 6, .inl (cI, 8, .inl (zr_bits 6))), (z_rows_r 7, .inr (0, [.ref (zr_has_q 7), .ref (zr_left_q 7), .ref (zr_bits_q 7), .int (zr_bitCount 7), .int (zr_given 7), .int (zr_made 7), .int (zr_gone 7), .int (zr_law 7)])), (zr_has_q 7, .inl (cI, 6, .inl (zr_has 7))), (zr_left_q 7, .inl (cI, 6, .inl (zr_left 7))), (zr_bits_q 7, .inl (cI, 8, .inl (zr_bits 7))), (z_rows_r 8, .inr (0, [.ref (zr_has_q 8), .ref (zr_left_q 8), .ref (zr_bits_q 8), .int (zr_bitCount 8), .int (zr_given 8), .int (zr_made 8), .int (zr_gone 8), .int (zr_law 8)])), (zr_has_q 8, .inl (cI, 6, .inl (zr_has 8))), (zr_left_q 8, .inl (cI, 6, .inl (zr_left 8))), (zr_bits_q 8, .inl (cI, 8, .inl (zr_bits 8))), (z_rows_r 9, .inr (0, [.ref (zr_has_q 9), .ref (zr_left_q 9), .ref (zr_bits_q 9), .int (zr_bitCount 9), .int (zr_given 9), .int (zr_made 9), .int (zr_gone 9), .int (zr_law 9)])), (zr_has_q 9, .inl (cI, 6, .inl (zr_has 9))), (zr_left_q 9, .inl (cI, 6, .inl (zr_left 9))), (zr_bits_q 9, .inl (cI, 8, .inl (zr_bits 9))), (w_o, .inr (0, [.ref w_has_a, .ref w_left_a, .ref w_bits_a, .int w_bitCount, .int w_given, .int w_made, .int w_gone, .int w_law])), (w_has_a, .inl (cI, 6, .inl w_has)), (w_left_a, .inl (cI, 6, .inl w_left)), (w_bits_a, .inl (cI, 8, .inl w_bits))]
abbrev rm_X1_restore : Room := { frames := 1, cells := 0, slots := 0, locals := 22 }
set_option maxHeartbeats 4000000 in
set_option maxRecDepth 100000 in
theorem c_X1_restore (l : Launch) (dC : Nat → ClassId) (dI : Nat → Nat → Nat) (cI cZ cQ cW : ClassId) (z_o : Nat) (z_rows_a : Nat) (z_rows_r : Nat → Nat) (zr_has_q : Nat → Nat) (zr_left_q : Nat → Nat) (zr_bits_q : Nat → Nat) (w_o : Nat) (w_has_a : Nat) (w_left_a : Nat) (w_bits_a : Nat) (z_next : Int32) (z_known : Int32) (zr_has : Nat → Nat → Int32) (zr_left : Nat → Nat → Int32) (zr_bits : Nat → Nat → Int32) (zr_bitCount : Nat → Int32) (zr_given : Nat → Int32) (zr_made : Nat → Int32) (zr_gone : Nat → Int32) (zr_law : Nat → Int32) (w_bitCount : Int32) (w_given : Int32) (w_made : Int32) (w_gone : Int32) (w_law : Int32) (w_has : Nat → Int32) (w_left : Nat → Int32) (w_bits : Nat → Int32) {ρ : Type} (N : Nat) (k : Int32 → Int32 → Int32 → Int32 → Int32 → Int32 → Int32 → Int32 → (Nat → Int32) → (Nat → Int32) → (Nat → Int32) → Option ρ) (res : ρ) (h : f_X1_restore N z_next z_known zr_has zr_left zr_bits zr_bitCount zr_given zr_made zr_gone zr_law w_bitCount w_given w_made w_gone w_law w_has w_left w_bits k = some res) : Ci l yX1_restore (WS yX1_restore cX1_restore 2 (some .boolean)) rm_X1_restore (dC, dI) (tysG cI cZ cQ cW) E0 [.ref z_o, .ref w_o] (w_X1_restore cI cZ cQ cW z_o z_rows_a z_rows_r zr_has_q zr_left_q zr_bits_q w_o w_has_a w_left_a w_bits_a z_next z_known zr_has zr_left zr_bits zr_bitCount zr_given zr_made zr_gone zr_law w_bitCount w_given w_made w_gone w_law w_has w_left w_bits) (fun (u : Int32 × Int32 × Int32 × Int32 × Int32 × Int32 × Int32 × (Nat → Int32) × (Nat → Int32) × (Nat → Int32)) => (w_X1_restore cI cZ cQ cW z_o z_rows_a z_rows_r zr_has_q zr_left_q zr_bits_q w_o w_has_a w_left_a w_bits_a u.1 u.2.1 zr_has zr_left zr_bits zr_bitCount zr_given zr_made zr_gone zr_law u.2.2.1 u.2.2.2.1 u.2.2.2.2.1 u.2.2.2.2.2.1 u.2.2.2.2.2.2.1 u.2.2.2.2.2.2.2.1 u.2.2.2.2.2.2.2.2.1 u.2.2.2.2.2.2.2.2.2)) (fun r u => k r u.1 u.2.1 u.2.2.1 u.2.2.2.1 u.2.2.2.2.1 u.2.2.2.2.2.1 u.2.2.2.2.2.2.1 u.2.2.2.2.2.2.2.1 u.2.2.2.2.2.2.2.2.1 u.2.2.2.2.2.2.2.2.2 = some res) := by
  refine Ci.of (cc := cX1_restore) (n := 2) (by decide +kernel) (Nat.le_of_ble_eq_true rfl) ?_
  intro p e s m args below meth c A ls Q B hW hE hS hl hQ
  have hx := B.1
  have hb := B.2.1
  have hl : lv_has ls 2 [(0, .ref z_o), (1, .ref w_o)] := hl
  unfold f_X1_restore at h
  refine lv_aload_n (pc := 0) hx hb (tb_at tk_X1_restore 0 rfl) rfl (lv_at hl 0 rfl) ?_
  refine k_get (pc := 1) (v := .int z_known) (T := TX1) B inG1 hW 0 rfl rfl 2 (by decide) q_f_X1_26 rfl rfl (tb_at tk_X1_restore 1 rfl) ?_
  refine lv_if_ne (pc := 4) (tgt := 9) hx hb (tb_at tk_X1_restore 2 rfl) (by decide) (fun cc => ?_) (fun cc => ?_)
  · have h := it_f cc h
    refine lv_aload_n (pc := 9) hx hb (tb_at tk_X1_restore 5 rfl) rfl (lv_at hl 0 rfl) ?_
    refine lv_aload_n (pc := 10) hx hb (tb_at tk_X1_restore 6 rfl) rfl (lv_at hl 0 rfl) ?_
    refine k_get (pc := 11) (v := .int z_next) (T := TX1) B inG1 hW 0 rfl rfl 1 (by decide) q_f_X1_18 rfl rfl (tb_at tk_X1_restore 7 rfl) ?_
    have w28 : ∀ (s1_j28 : Int32) (H : Heap) (locs : List Loc) (ls : Array Slot), f_X1_restore_j28 z_known w_has w_left w_bits zr_has zr_left zr_bits zr_bitCount zr_given zr_made zr_gone zr_law k N s1_j28 = some res → PD (dC, dI) A (w_X1_restore cI cZ cQ cW z_o z_rows_a z_rows_r zr_has_q zr_left_q zr_bits_q w_o w_has_a w_left_a w_bits_a z_next z_known zr_has zr_left zr_bits zr_bitCount zr_given zr_made zr_gone zr_law w_bitCount w_given w_made w_gone w_law w_has w_left w_bits) H → va_S A s.heap H locs → lv_has ls 2 [(0, .ref z_o), (1, .ref w_o)] → W p l e rm_X1_restore s m args below meth c H locs 0 0 Q (F0 m 28 ls [.int s1_j28, .ref z_o]) := by
      intro s1_j28 H locs ls h hW hS hl
      unfold f_X1_restore_j28 at h
      refine k_put (pc := 28) (T := TX1) B inG1 tyX1 tyX1_ok nmX1 hW hS 0 rfl rfl 1 (by decide) q_f_X1_18 rfl rfl rfl rfl (Nat.le_of_ble_eq_true rfl) (tb_at tk_X1_restore 15 rfl) (w_X1_restore cI cZ cQ cW z_o z_rows_a z_rows_r zr_has_q zr_left_q zr_bits_q w_o w_has_a w_left_a w_bits_a s1_j28 z_known zr_has zr_left zr_bits zr_bitCount zr_given zr_made zr_gone zr_law w_bitCount w_given w_made w_gone w_law w_has w_left w_bits) rfl (fun H locs hW hS => ?_)
      refine lv_aload_n (pc := 31) hx hb (tb_at tk_X1_restore 16 rfl) rfl (lv_at hl 0 rfl) ?_
      refine lv_dup (pc := 32) hx hb (tb_at tk_X1_restore 17 rfl) rfl ?_
      refine k_get (pc := 33) (v := .int z_known) (T := TX1) B inG1 hW 0 rfl rfl 2 (by decide) q_f_X1_26 rfl rfl (tb_at tk_X1_restore 18 rfl) ?_
      refine lv_iconst (pc := 36) (v := 1) hx hb (tb_at tk_X1_restore 19 rfl) (by decide) ?_
      refine lv_isub (pc := 37) hx hb (tb_at tk_X1_restore 20 rfl) ?_
      refine k_put (pc := 38) (T := TX1) B inG1 tyX1 tyX1_ok nmX1 hW hS 0 rfl rfl 2 (by decide) q_f_X1_26 rfl rfl rfl rfl (Nat.le_of_ble_eq_true rfl) (tb_at tk_X1_restore 21 rfl) (w_X1_restore cI cZ cQ cW z_o z_rows_a z_rows_r zr_has_q zr_left_q zr_bits_q w_o w_has_a w_left_a w_bits_a s1_j28 (z_known - 1) zr_has zr_left zr_bits zr_bitCount zr_given zr_made zr_gone zr_law w_bitCount w_given w_made w_gone w_law w_has w_left w_bits) rfl (fun H locs hW hS => ?_)
      refine lv_aload_n (pc := 41) hx hb (tb_at tk_X1_restore 22 rfl) rfl (lv_at hl 1 rfl) ?_
      refine lv_aload_n (pc := 42) hx hb (tb_at tk_X1_restore 23 rfl) rfl (lv_at hl 0 rfl) ?_
      refine k_get (pc := 43) (v := .ref z_rows_a) (T := TX1) B inG1 hW 0 rfl rfl 0 (by decide) q_f_X1_11 rfl rfl (tb_at tk_X1_restore 24 rfl) ?_
      refine lv_aload_n (pc := 46) hx hb (tb_at tk_X1_restore 25 rfl) rfl (lv_at hl 0 rfl) ?_
      refine k_get (pc := 47) (v := .int s1_j28) (T := TX1) B inG1 hW 0 rfl rfl 1 (by decide) q_f_X1_18 rfl rfl (tb_at tk_X1_restore 26 rfl) ?_
      have iq50 := ivi_in (ck_l h)
      have h := ck_r h
      refine k_aldo (pc := 50) (r := z_rows_r) B hW 1 2 rfl rfl iq50 (tb_at tk_X1_restore 27 rfl) ?_
      have kk9 : ∀ (w_bitCount_51 : Int32) (w_given_51 : Int32) (w_made_51 : Int32) (w_gone_51 : Int32) (w_law_51 : Int32) (w_has_51 : Nat → Int32) (w_left_51 : Nat → Int32) (w_bits_51 : Nat → Int32) (H : Heap) (locs : List Loc), (k 1 s1_j28 (z_known - 1) w_bitCount_51 w_given_51 w_made_51 w_gone_51 w_law_51 w_has_51 w_left_51 w_bits_51) = some res → PD (dC, dI) A (w_X1_restore cI cZ cQ cW z_o z_rows_a z_rows_r zr_has_q zr_left_q zr_bits_q w_o w_has_a w_left_a w_bits_a s1_j28 (z_known - 1) zr_has zr_left zr_bits zr_bitCount zr_given zr_made zr_gone zr_law w_bitCount_51 w_given_51 w_made_51 w_gone_51 w_law_51 w_has_51 w_left_51 w_bits_51) H → va_S A s.heap H locs → W p l e rm_X1_restore s m args below meth c H locs 0 0 Q (F0 m 54 ls []) := by
        intro w_bitCount_51 w_given_51 w_made_51 w_gone_51 w_law_51 w_has_51 w_left_51 w_bits_51 H locs h hW hS
        refine lv_iconst (pc := 54) (v := 1) hx hb (tb_at tk_X1_restore 29 rfl) (by decide) ?_
        exact hQ 1 (s1_j28, z_known - 1, w_bitCount_51, w_given_51, w_made_51, w_gone_51, w_law_51, w_has_51, w_left_51, w_bits_51) _ _ _ 55 nz1 h hW hS (tb_at tk_X1_restore 30 rfl)
      obtain ⟨j9, hj9, ej9⟩ := vp_in_of iq50 (by decide)
      subst ej9
      rcases (show j9 = 0 ∨ j9 = 1 ∨ j9 = 2 ∨ j9 = 3 ∨ j9 = 4 ∨ j9 = 5 ∨ j9 = 6 ∨ j9 = 7 ∨ j9 = 8 ∨ j9 = 9 by omega) with rfl | rfl | rfl | rfl | rfl | rfl | rfl | rfl | rfl | rfl
      · have ej : (nI 0).toNatClampNeg = 0 := nI_clamp (by decide)
        simp only [ej] at h kk9 ⊢
        refine k_callv (pc := 51) B (k_runVv (rest := []) (C := RX0) B (c_X0_become l dC dI cI cZ cQ cW w_o w_has_a w_left_a w_bits_a (z_rows_r 0) (zr_has_q 0) (zr_left_q 0) (zr_bits_q 0) w_bitCount w_given w_made w_gone w_law (zr_bitCount 0) (zr_given 0) (zr_made 0) (zr_gone 0) (zr_law 0) (zr_has 0) w_has (zr_left 0) w_left (zr_bits 0) w_bits  N _ res h) E0_st (fun _ _ _ => trivial) q_c_X0_become q_m_X1_22 q_i_X0_become q_s_X0_become q_n_X0 hd_X0_become ⟨rfl, rfl⟩ ⟨Nat.le_of_ble_eq_true rfl, Nat.le_of_ble_eq_true rfl⟩ hW [42, 2, 3, 43, 4, 44, 5, 45] rfl (by decide +kernel) (q0 := 0) (ci := 0) rfl rfl rfl hl.1 rfl (Nat.le_of_ble_eq_true rfl) (tb_at tk_X1_restore 28 rfl) ⟨Nat.zero_le _, Nat.zero_le _⟩) hW hS [42, 2, 3, 43, 4, 44, 5, 45] rfl [w_o, (z_rows_r 0), (zr_has_q 0), w_has_a, (zr_left_q 0), w_left_a, (zr_bits_q 0), w_bits_a] rfl (fun _ => rfl) [none, none, some 1, some 2, some 4, some 6, none, none, none, none, none, none, none, none, none, none, none, none, none, none, none, none, none, none, none, none, none, none, none, none, none, none, none, none, none, none, none, none, none, none, none, none, some 0, some 3, some 5, some 7] (by decide +kernel) (fun u => (w_X1_restore cI cZ cQ cW z_o z_rows_a z_rows_r zr_has_q zr_left_q zr_bits_q w_o w_has_a w_left_a w_bits_a ((nI 0)) (z_known - 1) zr_has zr_left zr_bits zr_bitCount zr_given zr_made zr_gone zr_law u.1 u.2.1 u.2.2.1 u.2.2.2.1 u.2.2.2.2.1 u.2.2.2.2.2.1 u.2.2.2.2.2.2.1 u.2.2.2.2.2.2.2)) (fun _ => rfl) (fun u H locs h hW hS => ?_)
        obtain ⟨w_bitCount_51, w_given_51, w_made_51, w_gone_51, w_law_51, w_has_51, w_left_51, w_bits_51⟩ := u
        dsimp only at h
        have hW : PD (dC, dI) A (w_X1_restore cI cZ cQ cW z_o z_rows_a z_rows_r zr_has_q zr_left_q zr_bits_q w_o w_has_a w_left_a w_bits_a ((nI 0)) (z_known - 1) zr_has zr_left zr_bits zr_bitCount zr_given zr_made zr_gone zr_law w_bitCount_51 w_given_51 w_made_51 w_gone_51 w_law_51 w_has_51 w_left_51 w_bits_51) H := hW
        exact kk9 w_bitCount_51 w_given_51 w_made_51 w_gone_51 w_law_51 w_has_51 w_left_51 w_bits_51 H locs h hW hS
      · have ej : (nI 1).toNatClampNeg = 1 := nI_clamp (by decide)
        simp only [ej] at h kk9 ⊢
        refine k_callv (pc := 51) B (k_runVv (rest := []) (C := RX0) B (c_X0_become l dC dI cI cZ cQ cW w_o w_has_a w_left_a w_bits_a (z_rows_r 1) (zr_has_q 1) (zr_left_q 1) (zr_bits_q 1) w_bitCount w_given w_made w_gone w_law (zr_bitCount 1) (zr_given 1) (zr_made 1) (zr_gone 1) (zr_law 1) (zr_has 1) w_has (zr_left 1) w_left (zr_bits 1) w_bits  N _ res h) E0_st (fun _ _ _ => trivial) q_c_X0_become q_m_X1_22 q_i_X0_become q_s_X0_become q_n_X0 hd_X0_become ⟨rfl, rfl⟩ ⟨Nat.le_of_ble_eq_true rfl, Nat.le_of_ble_eq_true rfl⟩ hW [42, 6, 7, 43, 8, 44, 9, 45] rfl (by decide +kernel) (q0 := 0) (ci := 0) rfl rfl rfl hl.1 rfl (Nat.le_of_ble_eq_true rfl) (tb_at tk_X1_restore 28 rfl) ⟨Nat.zero_le _, Nat.zero_le _⟩) hW hS [42, 6, 7, 43, 8, 44, 9, 45] rfl [w_o, (z_rows_r 1), (zr_has_q 1), w_has_a, (zr_left_q 1), w_left_a, (zr_bits_q 1), w_bits_a] rfl (fun _ => rfl) [none, none, none, none, none, none, some 1, some 2, some 4, some 6, none, none, none, none, none, none, none, none, none, none, none, none, none, none, none, none, none, none, none, none, none, none, none, none, none, none, none, none, none, none, none, none, some 0, some 3, some 5, some 7] (by decide +kernel) (fun u => (w_X1_restore cI cZ cQ cW z_o z_rows_a z_rows_r zr_has_q zr_left_q zr_bits_q w_o w_has_a w_left_a w_bits_a ((nI 1)) (z_known - 1) zr_has zr_left zr_bits zr_bitCount zr_given zr_made zr_gone zr_law u.1 u.2.1 u.2.2.1 u.2.2.2.1 u.2.2.2.2.1 u.2.2.2.2.2.1 u.2.2.2.2.2.2.1 u.2.2.2.2.2.2.2)) (fun _ => rfl) (fun u H locs h hW hS => ?_)
        obtain ⟨w_bitCount_51, w_given_51, w_made_51, w_gone_51, w_law_51, w_has_51, w_left_51, w_bits_51⟩ := u
        dsimp only at h
        have hW : PD (dC, dI) A (w_X1_restore cI cZ cQ cW z_o z_rows_a z_rows_r zr_has_q zr_left_q zr_bits_q w_o w_has_a w_left_a w_bits_a ((nI 1)) (z_known - 1) zr_has zr_left zr_bits zr_bitCount zr_given zr_made zr_gone zr_law w_bitCount_51 w_given_51 w_made_51 w_gone_51 w_law_51 w_has_51 w_left_51 w_bits_51) H := hW
        exact kk9 w_bitCount_51 w_given_51 w_made_51 w_gone_51 w_law_51 w_has_51 w_left_51 w_bits_51 H locs h hW hS
      · have ej : (nI 2).toNatClampNeg = 2 := nI_clamp (by decide)
        simp only [ej] at h kk9 ⊢
        refine k_callv (pc := 51) B (k_runVv (rest := []) (C := RX0) B (c_X0_become l dC dI cI cZ cQ cW w_o w_has_a w_left_a w_bits_a (z_rows_r 2) (zr_has_q 2) (zr_left_q 2) (zr_bits_q 2) w_bitCount w_given w_made w_gone w_law (zr_bitCount 2) (zr_given 2) (zr_made 2) (zr_gone 2) (zr_law 2) (zr_has 2) w_has (zr_left 2) w_left (zr_bits 2) w_bits  N _ res h) E0_st (fun _ _ _ => trivial) q_c_X0_become q_m_X1_22 q_i_X0_become q_s_X0_become q_n_X0 hd_X0_become ⟨rfl, rfl⟩ ⟨Nat.le_of_ble_eq_true rfl, Nat.le_of_ble_eq_true rfl⟩ hW [42, 10, 11, 43, 12, 44, 13, 45] rfl (by decide +kernel) (q0 := 0) (ci := 0) rfl rfl rfl hl.1 rfl (Nat.le_of_ble_eq_true rfl) (tb_at tk_X1_restore 28 rfl) ⟨Nat.zero_le _, Nat.zero_le _⟩) hW hS [42, 10, 11, 43, 12, 44, 13, 45] rfl [w_o, (z_rows_r 2), (zr_has_q 2), w_has_a, (zr_left_q 2), w_left_a, (zr_bits_q 2), w_bits_a] rfl (fun _ => rfl) [none, none, none, none, none, none, none, none, none, none, some 1, some 2, some 4, some 6, none, none, none, none, none, none, none, none, none, none, none, none, none, none, none, none, none, none, none, none, none, none, none, none, none, none, none, none, some 0, some 3, some 5, some 7] (by decide +kernel) (fun u => (w_X1_restore cI cZ cQ cW z_o z_rows_a z_rows_r zr_has_q zr_left_q zr_bits_q w_o w_has_a w_left_a w_bits_a ((nI 2)) (z_known - 1) zr_has zr_left zr_bits zr_bitCount zr_given zr_made zr_gone zr_law u.1 u.2.1 u.2.2.1 u.2.2.2.1 u.2.2.2.2.1 u.2.2.2.2.2.1 u.2.2.2.2.2.2.1 u.2.2.2.2.2.2.2)) (fun _ => rfl) (fun u H locs h hW hS => ?_)
        obtain ⟨w_bitCount_51, w_given_51, w_made_51, w_gone_51, w_law_51, w_has_51, w_left_51, w_bits_51⟩ := u
        dsimp only at h
        have hW : PD (dC, dI) A (w_X1_restore cI cZ cQ cW z_o z_rows_a z_rows_r zr_has_q zr_left_q zr_bits_q w_o w_has_a w_left_a w_bits_a ((nI 2)) (z_known - 1) zr_has zr_left zr_bits zr_bitCount zr_given zr_made zr_gone zr_law w_bitCount_51 w_given_51 w_made_51 w_gone_51 w_law_51 w_has_51 w_left_51 w_bits_51) H := hW
        exact kk9 w_bitCount_51 w_given_51 w_made_51 w_gone_51 w_law_51 w_has_51 w_left_51 w_bits_51 H locs h hW hS
      · have ej : (nI 3).toNatClampNeg = 3 := nI_clamp (by decide)
        simp only [ej] at h kk9 ⊢
        refine k_callv (pc := 51) B (k_runVv (rest := []) (C := RX0) B (c_X0_become l dC dI cI cZ cQ cW w_o w_has_a w_left_a w_bits_a (z_rows_r 3) (zr_has_q 3) (zr_left_q 3) (zr_bits_q 3) w_bitCount w_given w_made w_gone w_law (zr_bitCount 3) (zr_given 3) (zr_made 3) (zr_gone 3) (zr_law 3) (zr_has 3) w_has (zr_left 3) w_left (zr_bits 3) w_bits  N _ res h) E0_st (fun _ _ _ => trivial) q_c_X0_become q_m_X1_22 q_i_X0_become q_s_X0_become q_n_X0 hd_X0_become ⟨rfl, rfl⟩ ⟨Nat.le_of_ble_eq_true rfl, Nat.le_of_ble_eq_true rfl⟩ hW [42, 14, 15, 43, 16, 44, 17, 45] rfl (by decide +kernel) (q0 := 0) (ci := 0) rfl rfl rfl hl.1 rfl (Nat.le_of_ble_eq_true rfl) (tb_at tk_X1_restore 28 rfl) ⟨Nat.zero_le _, Nat.zero_le _⟩) hW hS [42, 14, 15, 43, 16, 44, 17, 45] rfl [w_o, (z_rows_r 3), (zr_has_q 3), w_has_a, (zr_left_q 3), w_left_a, (zr_bits_q 3), w_bits_a] rfl (fun _ => rfl) [none, none, none, none, none, none, none, none, none, none, none, none, none, none, some 1, some 2, some 4, some 6, none, none, none, none, none, none, none, none, none, none, none, none, none, none, none, none, none, none, none, none, none, none, none, none, some 0, some 3, some 5, some 7] (by decide +kernel) (fun u => (w_X1_restore cI cZ cQ cW z_o z_rows_a z_rows_r zr_has_q zr_left_q zr_bits_q w_o w_has_a w_left_a w_bits_a ((nI 3)) (z_known - 1) zr_has zr_left zr_bits zr_bitCount zr_given zr_made zr_gone zr_law u.1 u.2.1 u.2.2.1 u.2.2.2.1 u.2.2.2.2.1 u.2.2.2.2.2.1 u.2.2.2.2.2.2.1 u.2.2.2.2.2.2.2)) (fun _ => rfl) (fun u H locs h hW hS => ?_)
        obtain ⟨w_bitCount_51, w_given_51, w_made_51, w_gone_51, w_law_51, w_has_51, w_left_51, w_bits_51⟩ := u
        dsimp only at h
        have hW : PD (dC, dI) A (w_X1_restore cI cZ cQ cW z_o z_rows_a z_rows_r zr_has_q zr_left_q zr_bits_q w_o w_has_a w_left_a w_bits_a ((nI 3)) (z_known - 1) zr_has zr_left zr_bits zr_bitCount zr_given zr_made zr_gone zr_law w_bitCount_51 w_given_51 w_made_51 w_gone_51 w_law_51 w_has_51 w_left_51 w_bits_51) H := hW
        exact kk9 w_bitCount_51 w_given_51 w_made_51 w_gone_51 w_law_51 w_has_51 w_left_51 w_bits_51 H locs h hW hS
      · have ej : (nI 4).toNatClampNeg = 4 := nI_clamp (by decide)
        simp only [ej] at h kk9 ⊢
        refine k_callv (pc := 51) B (k_runVv (rest := []) (C := RX0) B (c_X0_become l dC dI cI cZ cQ cW w_o w_has_a w_left_a w_bits_a (z_rows_r 4) (zr_has_q 4) (zr_left_q 4) (zr_bits_q 4) w_bitCount w_given w_made w_gone w_law (zr_bitCount 4) (zr_given 4) (zr_made 4) (zr_gone 4) (zr_law 4) (zr_has 4) w_has (zr_left 4) w_left (zr_bits 4) w_bits  N _ res h) E0_st (fun _ _ _ => trivial) q_c_X0_become q_m_X1_22 q_i_X0_become q_s_X0_become q_n_X0 hd_X0_become ⟨rfl, rfl⟩ ⟨Nat.le_of_ble_eq_true rfl, Nat.le_of_ble_eq_true rfl⟩ hW [42, 18, 19, 43, 20, 44, 21, 45] rfl (by decide +kernel) (q0 := 0) (ci := 0) rfl rfl rfl hl.1 rfl (Nat.le_of_ble_eq_true rfl) (tb_at tk_X1_restore 28 rfl) ⟨Nat.zero_le _, Nat.zero_le _⟩) hW hS [42, 18, 19, 43, 20, 44, 21, 45] rfl [w_o, (z_rows_r 4), (zr_has_q 4), w_has_a, (zr_left_q 4), w_left_a, (zr_bits_q 4), w_bits_a] rfl (fun _ => rfl) [none, none, none, none, none, none, none, none, none, none, none, none, none, none, none, none, none, none, some 1, some 2, some 4, some 6, none, none, none, none, none, none, none, none, none, none, none, none, none, none, none, none, none, none, none, none, some 0, some 3, some 5, some 7] (by decide +kernel) (fun u => (w_X1_restore cI cZ cQ cW z_o z_rows_a z_rows_r zr_has_q zr_left_q zr_bits_q w_o w_has_a w_left_a w_bits_a ((nI 4)) (z_known - 1) zr_has zr_left zr_bits zr_bitCount zr_given zr_made zr_gone zr_law u.1 u.2.1 u.2.2.1 u.2.2.2.1 u.2.2.2.2.1 u.2.2.2.2.2.1 u.2.2.2.2.2.2.1 u.2.2.2.2.2.2.2)) (fun _ => rfl) (fun u H locs h hW hS => ?_)
        obtain ⟨w_bitCount_51, w_given_51, w_made_51, w_gone_51, w_law_51, w_has_51, w_left_51, w_bits_51⟩ := u
        dsimp only at h
        have hW : PD (dC, dI) A (w_X1_restore cI cZ cQ cW z_o z_rows_a z_rows_r zr_has_q zr_left_q zr_bits_q w_o w_has_a w_left_a w_bits_a ((nI 4)) (z_known - 1) zr_has zr_left zr_bits zr_bitCount zr_given zr_made zr_gone zr_law w_bitCount_51 w_given_51 w_made_51 w_gone_51 w_law_51 w_has_51 w_left_51 w_bits_51) H := hW
        exact kk9 w_bitCount_51 w_given_51 w_made_51 w_gone_51 w_law_51 w_has_51 w_left_51 w_bits_51 H locs h hW hS
      · have ej : (nI 5).toNatClampNeg = 5 := nI_clamp (by decide)
        simp only [ej] at h kk9 ⊢
        refine k_callv (pc := 51) B (k_runVv (rest := []) (C := RX0) B (c_X0_become l dC dI cI cZ cQ cW w_o w_has_a w_left_a w_bits_a (z_rows_r 5) (zr_has_q 5) (zr_left_q 5) (zr_bits_q 5) w_bitCount w_given w_made w_gone w_law (zr_bitCount 5) (zr_given 5) (zr_made 5) (zr_gone 5) (zr_law 5) (zr_has 5) w_has (zr_left 5) w_left (zr_bits 5) w_bits  N _ res h) E0_st (fun _ _ _ => trivial) q_c_X0_become q_m_X1_22 q_i_X0_become q_s_X0_become q_n_X0 hd_X0_become ⟨rfl, rfl⟩ ⟨Nat.le_of_ble_eq_true rfl, Nat.le_of_ble_eq_true rfl⟩ hW [42, 22, 23, 43, 24, 44, 25, 45] rfl (by decide +kernel) (q0 := 0) (ci := 0) rfl rfl rfl hl.1 rfl (Nat.le_of_ble_eq_true rfl) (tb_at tk_X1_restore 28 rfl) ⟨Nat.zero_le _, Nat.zero_le _⟩) hW hS [42, 22, 23, 43, 24, 44, 25, 45] rfl [w_o, (z_rows_r 5), (zr_has_q 5), w_has_a, (zr_left_q 5), w_left_a, (zr_bits_q 5), w_bits_a] rfl (fun _ => rfl) [none, none, none, none, none, none, none, none, none, none, none, none, none, none, none, none, none, none, none, none, none, none, some 1, some 2, some 4, some 6, none, none, none, none, none, none, none, none, none, none, none, none, none, none, none, none, some 0, some 3, some 5, some 7] (by decide +kernel) (fun u => (w_X1_restore cI cZ cQ cW z_o z_rows_a z_rows_r zr_has_q zr_left_q zr_bits_q w_o w_has_a w_left_a w_bits_a ((nI 5)) (z_known - 1) zr_has zr_left zr_bits zr_bitCount zr_given zr_made zr_gone zr_law u.1 u.2.1 u.2.2.1 u.2.2.2.1 u.2.2.2.2.1 u.2.2.2.2.2.1 u.2.2.2.2.2.2.1 u.2.2.2.2.2.2.2)) (fun _ => rfl) (fun u H locs h hW hS => ?_)
        obtain ⟨w_bitCount_51, w_given_51, w_made_51, w_gone_51, w_law_51, w_has_51, w_left_51, w_bits_51⟩ := u
        dsimp only at h
        have hW : PD (dC, dI) A (w_X1_restore cI cZ cQ cW z_o z_rows_a z_rows_r zr_has_q zr_left_q zr_bits_q w_o w_has_a w_left_a w_bits_a ((nI 5)) (z_known - 1) zr_has zr_left zr_bits zr_bitCount zr_given zr_made zr_gone zr_law w_bitCount_51 w_given_51 w_made_51 w_gone_51 w_law_51 w_has_51 w_left_51 w_bits_51) H := hW
        exact kk9 w_bitCount_51 w_given_51 w_made_51 w_gone_51 w_law_51 w_has_51 w_left_51 w_bits_51 H locs h hW hS
      · have ej : (nI 6).toNatClampNeg = 6 := nI_clamp (by decide)
        simp only [ej] at h kk9 ⊢
        refine k_callv (pc := 51) B (k_runVv (rest := []) (C := RX0) B (c_X0_become l dC dI cI cZ cQ cW w_o w_has_a w_left_a w_bits_a (z_rows_r 6) (zr_has_q 6) (zr_left_q 6) (zr_bits_q 6) w_bitCount w_given w_made w_gone w_law (zr_bitCount 6) (zr_given 6) (zr_made 6) (zr_gone 6) (zr_law 6) (zr_has 6) w_has (zr_left 6) w_left (zr_bits 6) w_bits  N _ res h) E0_st (fun _ _ _ => trivial) q_c_X0_become q_m_X1_22 q_i_X0_become q_s_X0_become q_n_X0 hd_X0_become ⟨rfl, rfl⟩ ⟨Nat.le_of_ble_eq_true rfl, Nat.le_of_ble_eq_true rfl⟩ hW [42, 26, 27, 43, 28, 44, 29, 45] rfl (by decide +kernel) (q0 := 0) (ci := 0) rfl rfl rfl hl.1 rfl (Nat.le_of_ble_eq_true rfl) (tb_at tk_X1_restore 28 rfl) ⟨Nat.zero_le _, Nat.zero_le _⟩) hW hS [42, 26, 27, 43, 28, 44, 29, 45] rfl [w_o, (z_rows_r 6), (zr_has_q 6), w_has_a, (zr_left_q 6), w_left_a, (zr_bits_q 6), w_bits_a] rfl (fun _ => rfl) [none, none, none, none, none, none, none, none, none, none, none, none, none, none, none, none, none, none, none, none, none, none, none, none, none, none, some 1, some 2, some 4, some 6, none, none, none, none, none, none, none, none, none, none, none, none, some 0, some 3, some 5, some 7] (by decide +kernel) (fun u => (w_X1_restore cI cZ cQ cW z_o z_rows_a z_rows_r zr_has_q zr_left_q zr_bits_q w_o w_has_a w_left_a w_bits_a ((nI 6)) (z_known - 1) zr_has zr_left zr_bits zr_bitCount zr_given zr_made zr_gone zr_law u.1 u.2.1 u.2.2.1 u.2.2.2.1 u.2.2.2.2.1 u.2.2.2.2.2.1 u.2.2.2.2.2.2.1 u.2.2.2.2.2.2.2)) (fun _ => rfl) (fun u H locs h hW hS => ?_)
        obtain ⟨w_bitCount_51, w_given_51, w_made_51, w_gone_51, w_law_51, w_has_51, w_left_51, w_bits_51⟩ := u
        dsimp only at h
        have hW : PD (dC, dI) A (w_X1_restore cI cZ cQ cW z_o z_rows_a z_rows_r zr_has_q zr_left_q zr_bits_q w_o w_has_a w_left_a w_bits_a ((nI 6)) (z_known - 1) zr_has zr_left zr_bits zr_bitCount zr_given zr_made zr_gone zr_law w_bitCount_51 w_given_51 w_made_51 w_gone_51 w_law_51 w_has_51 w_left_51 w_bits_51) H := hW
        exact kk9 w_bitCount_51 w_given_51 w_made_51 w_gone_51 w_law_51 w_has_51 w_left_51 w_bits_51 H locs h hW hS
      · have ej : (nI 7).toNatClampNeg = 7 := nI_clamp (by decide)
        simp only [ej] at h kk9 ⊢
        refine k_callv (pc := 51) B (k_runVv (rest := []) (C := RX0) B (c_X0_become l dC dI cI cZ cQ cW w_o w_has_a w_left_a w_bits_a (z_rows_r 7) (zr_has_q 7) (zr_left_q 7) (zr_bits_q 7) w_bitCount w_given w_made w_gone w_law (zr_bitCount 7) (zr_given 7) (zr_made 7) (zr_gone 7) (zr_law 7) (zr_has 7) w_has (zr_left 7) w_left (zr_bits 7) w_bits  N _ res h) E0_st (fun _ _ _ => trivial) q_c_X0_become q_m_X1_22 q_i_X0_become q_s_X0_become q_n_X0 hd_X0_become ⟨rfl, rfl⟩ ⟨Nat.le_of_ble_eq_true rfl, Nat.le_of_ble_eq_true rfl⟩ hW [42, 30, 31, 43, 32, 44, 33, 45] rfl (by decide +kernel) (q0 := 0) (ci := 0) rfl rfl rfl hl.1 rfl (Nat.le_of_ble_eq_true rfl) (tb_at tk_X1_restore 28 rfl) ⟨Nat.zero_le _, Nat.zero_le _⟩) hW hS [42, 30, 31, 43, 32, 44, 33, 45] rfl [w_o, (z_rows_r 7), (zr_has_q 7), w_has_a, (zr_left_q 7), w_left_a, (zr_bits_q 7), w_bits_a] rfl (fun _ => rfl) [none, none, none, none, none, none, none, none, none, none, none, none, none, none, none, none, none, none, none, none, none, none, none, none, none, none, none, none, none, none, some 1, some 2, some 4, some 6, none, none, none, none, none, none, none, none, some 0, some 3, some 5, some 7] (by decide +kernel) (fun u => (w_X1_restore cI cZ cQ cW z_o z_rows_a z_rows_r zr_has_q zr_left_q zr_bits_q w_o w_has_a w_left_a w_bits_a ((nI 7)) (z_known - 1) zr_has zr_left zr_bits zr_bitCount zr_given zr_made zr_gone zr_law u.1 u.2.1 u.2.2.1 u.2.2.2.1 u.2.2.2.2.1 u.2.2.2.2.2.1 u.2.2.2.2.2.2.1 u.2.2.2.2.2.2.2)) (fun _ => rfl) (fun u H locs h hW hS => ?_)
        obtain ⟨w_bitCount_51, w_given_51, w_made_51, w_gone_51, w_law_51, w_has_51, w_left_51, w_bits_51⟩ := u
        dsimp only at h
        have hW : PD (dC, dI) A (w_X1_restore cI cZ cQ cW z_o z_rows_a z_rows_r zr_has_q zr_left_q zr_bits_q w_o w_has_a w_left_a w_bits_a ((nI 7)) (z_known - 1) zr_has zr_left zr_bits zr_bitCount zr_given zr_made zr_gone zr_law w_bitCount_51 w_given_51 w_made_51 w_gone_51 w_law_51 w_has_51 w_left_51 w_bits_51) H := hW
        exact kk9 w_bitCount_51 w_given_51 w_made_51 w_gone_51 w_law_51 w_has_51 w_left_51 w_bits_51 H locs h hW hS
      · have ej : (nI 8).toNatClampNeg = 8 := nI_clamp (by decide)
        simp only [ej] at h kk9 ⊢
        refine k_callv (pc := 51) B (k_runVv (rest := []) (C := RX0) B (c_X0_become l dC dI cI cZ cQ cW w_o w_has_a w_left_a w_bits_a (z_rows_r 8) (zr_has_q 8) (zr_left_q 8) (zr_bits_q 8) w_bitCount w_given w_made w_gone w_law (zr_bitCount 8) (zr_given 8) (zr_made 8) (zr_gone 8) (zr_law 8) (zr_has 8) w_has (zr_left 8) w_left (zr_bits 8) w_bits  N _ res h) E0_st (fun _ _ _ => trivial) q_c_X0_become q_m_X1_22 q_i_X0_become q_s_X0_become q_n_X0 hd_X0_become ⟨rfl, rfl⟩ ⟨Nat.le_of_ble_eq_true rfl, Nat.le_of_ble_eq_true rfl⟩ hW [42, 34, 35, 43, 36, 44, 37, 45] rfl (by decide +kernel) (q0 := 0) (ci := 0) rfl rfl rfl hl.1 rfl (Nat.le_of_ble_eq_true rfl) (tb_at tk_X1_restore 28 rfl) ⟨Nat.zero_le _, Nat.zero_le _⟩) hW hS [42, 34, 35, 43, 36, 44, 37, 45] rfl [w_o, (z_rows_r 8), (zr_has_q 8), w_has_a, (zr_left_q 8), w_left_a, (zr_bits_q 8), w_bits_a] rfl (fun _ => rfl) [none, none, none, none, none, none, none, none, none, none, none, none, none, none, none, none, none, none, none, none, none, none, none, none, none, none, none, none, none, none, none, none, none, none, some 1, some 2, some 4, some 6, none, none, none, none, some 0, some 3, some 5, some 7] (by decide +kernel) (fun u => (w_X1_restore cI cZ cQ cW z_o z_rows_a z_rows_r zr_has_q zr_left_q zr_bits_q w_o w_has_a w_left_a w_bits_a ((nI 8)) (z_known - 1) zr_has zr_left zr_bits zr_bitCount zr_given zr_made zr_gone zr_law u.1 u.2.1 u.2.2.1 u.2.2.2.1 u.2.2.2.2.1 u.2.2.2.2.2.1 u.2.2.2.2.2.2.1 u.2.2.2.2.2.2.2)) (fun _ => rfl) (fun u H locs h hW hS => ?_)
        obtain ⟨w_bitCount_51, w_given_51, w_made_51, w_gone_51, w_law_51, w_has_51, w_left_51, w_bits_51⟩ := u
        dsimp only at h
        have hW : PD (dC, dI) A (w_X1_restore cI cZ cQ cW z_o z_rows_a z_rows_r zr_has_q zr_left_q zr_bits_q w_o w_has_a w_left_a w_bits_a ((nI 8)) (z_known - 1) zr_has zr_left zr_bits zr_bitCount zr_given zr_made zr_gone zr_law w_bitCount_51 w_given_51 w_made_51 w_gone_51 w_law_51 w_has_51 w_left_51 w_bits_51) H := hW
        exact kk9 w_bitCount_51 w_given_51 w_made_51 w_gone_51 w_law_51 w_has_51 w_left_51 w_bits_51 H locs h hW hS
      · have ej : (nI 9).toNatClampNeg = 9 := nI_clamp (by decide)
        simp only [ej] at h kk9 ⊢
        refine k_callv (pc := 51) B (k_runVv (rest := []) (C := RX0) B (c_X0_become l dC dI cI cZ cQ cW w_o w_has_a w_left_a w_bits_a (z_rows_r 9) (zr_has_q 9) (zr_left_q 9) (zr_bits_q 9) w_bitCount w_given w_made w_gone w_law (zr_bitCount 9) (zr_given 9) (zr_made 9) (zr_gone 9) (zr_law 9) (zr_has 9) w_has (zr_left 9) w_left (zr_bits 9) w_bits  N _ res h) E0_st (fun _ _ _ => trivial) q_c_X0_become q_m_X1_22 q_i_X0_become q_s_X0_become q_n_X0 hd_X0_become ⟨rfl, rfl⟩ ⟨Nat.le_of_ble_eq_true rfl, Nat.le_of_ble_eq_true rfl⟩ hW [42, 38, 39, 43, 40, 44, 41, 45] rfl (by decide +kernel) (q0 := 0) (ci := 0) rfl rfl rfl hl.1 rfl (Nat.le_of_ble_eq_true rfl) (tb_at tk_X1_restore 28 rfl) ⟨Nat.zero_le _, Nat.zero_le _⟩) hW hS [42, 38, 39, 43, 40, 44, 41, 45] rfl [w_o, (z_rows_r 9), (zr_has_q 9), w_has_a, (zr_left_q 9), w_left_a, (zr_bits_q 9), w_bits_a] rfl (fun _ => rfl) [none, none, none, none, none, none, none, none, none, none, none, none, none, none, none, none, none, none, none, none, none, none, none, none, none, none, none, none, none, none, none, none, none, none, none, none, none, none, some 1, some 2, some 4, some 6, some 0, some 3, some 5, some 7] (by decide +kernel) (fun u => (w_X1_restore cI cZ cQ cW z_o z_rows_a z_rows_r zr_has_q zr_left_q zr_bits_q w_o w_has_a w_left_a w_bits_a ((nI 9)) (z_known - 1) zr_has zr_left zr_bits zr_bitCount zr_given zr_made zr_gone zr_law u.1 u.2.1 u.2.2.1 u.2.2.2.1 u.2.2.2.2.1 u.2.2.2.2.2.1 u.2.2.2.2.2.2.1 u.2.2.2.2.2.2.2)) (fun _ => rfl) (fun u H locs h hW hS => ?_)
        obtain ⟨w_bitCount_51, w_given_51, w_made_51, w_gone_51, w_law_51, w_has_51, w_left_51, w_bits_51⟩ := u
        dsimp only at h
        have hW : PD (dC, dI) A (w_X1_restore cI cZ cQ cW z_o z_rows_a z_rows_r zr_has_q zr_left_q zr_bits_q w_o w_has_a w_left_a w_bits_a ((nI 9)) (z_known - 1) zr_has zr_left zr_bits zr_bitCount zr_given zr_made zr_gone zr_law w_bitCount_51 w_given_51 w_made_51 w_gone_51 w_law_51 w_has_51 w_left_51 w_bits_51) H := hW
        exact kk9 w_bitCount_51 w_given_51 w_made_51 w_gone_51 w_law_51 w_has_51 w_left_51 w_bits_51 H locs h hW hS
    refine lv_if_le (pc := 14) (tgt := 26) hx hb (tb_at tk_X1_restore 8 rfl) (by decide) (fun cc => ?_) (fun cc => ?_)
    · have h := it_t cc h
      refine lv_bipush (pc := 26) (v := 9) hx hb (tb_at tk_X1_restore 14 rfl) (by decide) ?_
      exact w28 9 _ _ _ h hW hS (lv_sub hl [0, 1] rfl)
    · have h := it_f cc h
      refine lv_aload_n (pc := 17) hx hb (tb_at tk_X1_restore 9 rfl) rfl (lv_at hl 0 rfl) ?_
      refine k_get (pc := 18) (v := .int z_next) (T := TX1) B inG1 hW 0 rfl rfl 1 (by decide) q_f_X1_18 rfl rfl (tb_at tk_X1_restore 10 rfl) ?_
      refine lv_iconst (pc := 21) (v := 1) hx hb (tb_at tk_X1_restore 11 rfl) (by decide) ?_
      refine lv_isub (pc := 22) hx hb (tb_at tk_X1_restore 12 rfl) ?_
      refine lv_goto (pc := 23) (tgt := 28) hx hb (tb_at tk_X1_restore 13 rfl) (by decide) ?_
      exact w28 (z_next - 1) _ _ _ h hW hS (lv_sub hl [0, 1] rfl)
  · have h := it_t cc h
    refine lv_iconst (pc := 7) (v := 0) hx hb (tb_at tk_X1_restore 3 rfl) (by decide) ?_
    exact hQ 0 (z_next, z_known, w_bitCount, w_given, w_made, w_gone, w_law, w_has, w_left, w_bits) _ _ _ 8 nz0 h hW hS (tb_at tk_X1_restore 4 rfl)
def f_X3_fullest_l7 {ρ : Type} (h_bitCount : Int32) (h_bits : Nat → Int32) (k : Int32 → Option ρ) (N : Nat) : Nat → Int32 → Int32 → Int32 → Option ρ
  | 0, _, _, _ => none
  | n7 + 1, y2_l7, y3_l7, y4_l7 => if ((1 : Int32) <<< (h_bitCount &&& 31)) ≤ y4_l7 then (k y2_l7) else (f_X0_minutes N h_bitCount h_bits y4_l7 (fun r21 => if 60 < r21 then ((f_X3_fullest_l7 h_bitCount h_bits k N n7) y2_l7 y3_l7 (y4_l7 + 1)) else (if r21 ≤ y3_l7 then ((f_X3_fullest_l7 h_bitCount h_bits k N n7) y2_l7 y3_l7 (y4_l7 + 1)) else ((f_X3_fullest_l7 h_bitCount h_bits k N n7) y4_l7 r21 (y4_l7 + 1)))))
def f_X3_fullest {ρ : Type} (N : Nat) (h_bitCount : Int32) (h_bits : Nat → Int32) (k : Int32 → Option ρ) : Option ρ := f_X3_fullest_l7 h_bitCount h_bits k N N 0 0 1
abbrev w_X3_fullest (cI cZ cQ cW : ClassId) (z_o : Nat) (z_sums_a : Nat) (z_hours_a : Nat) (h_o : Nat) (h_has_a : Nat) (h_left_a : Nat) (h_bits_a : Nat) (h_bitCount : Int32) (h_given : Int32) (h_made : Int32) (h_gone : Int32) (h_law : Int32) (h_bits : Nat → Int32) : va_W := [(z_o, .inr (3, [.ref z_sums_a, .ref z_hours_a])), (h_o, .inr (0, [.ref h_has_a, .ref h_left_a, .ref h_bits_a, .int h_bitCount, .int h_given, .int h_made, .int h_gone, .int h_law])), (h_bits_a, .inl (cI, 8, .inl h_bits))]
abbrev rm_X3_fullest : Room := { frames := 2, cells := 0, slots := 0, locals := 44 }
set_option maxHeartbeats 4000000 in
set_option maxRecDepth 100000 in
theorem c_X3_fullest (l : Launch) (dC : Nat → ClassId) (dI : Nat → Nat → Nat) (cI cZ cQ cW : ClassId) (z_o : Nat) (z_sums_a : Nat) (z_hours_a : Nat) (h_o : Nat) (h_has_a : Nat) (h_left_a : Nat) (h_bits_a : Nat) (h_bitCount : Int32) (h_given : Int32) (h_made : Int32) (h_gone : Int32) (h_law : Int32) (h_bits : Nat → Int32) {ρ : Type} (N : Nat) (k : Int32 → Option ρ) (res : ρ) (h : f_X3_fullest N h_bitCount h_bits k = some res) : Ci l yX3_fullest (WS yX3_fullest cX3_fullest 6 (some .int)) rm_X3_fullest (dC, dI) (tysG cI cZ cQ cW) E0 [.ref z_o, .ref h_o] (w_X3_fullest cI cZ cQ cW z_o z_sums_a z_hours_a h_o h_has_a h_left_a h_bits_a h_bitCount h_given h_made h_gone h_law h_bits) (fun (_ : Unit) => (w_X3_fullest cI cZ cQ cW z_o z_sums_a z_hours_a h_o h_has_a h_left_a h_bits_a h_bitCount h_given h_made h_gone h_law h_bits)) (fun r _ => k r = some res) := by
  refine Ci.of (cc := cX3_fullest) (n := 6) (by decide +kernel) (Nat.le_of_ble_eq_true rfl) ?_
  intro p e s m args below meth c A ls Q B hW hE hS hl hQ
  have hx := B.1
  have hb := B.2.1
  have hl : lv_has ls 6 [(0, .ref z_o), (1, .ref h_o)] := hl
  unfold f_X3_fullest at h
  refine lv_iconst (pc := 0) (v := 0) hx hb (tb_at tk_X3_fullest 0 rfl) (by decide) ?_
  refine lv_istore_n (pc := 1) (lv' := [(2, .int 0), (0, .ref z_o), (1, .ref h_o)]) hx hb (tb_at tk_X3_fullest 1 rfl) rfl hl (by decide) rfl (fun ls hl => ?_)
  refine lv_iconst (pc := 2) (v := 0) hx hb (tb_at tk_X3_fullest 2 rfl) (by decide) ?_
  refine lv_istore_n (pc := 3) (lv' := [(3, .int 0), (2, .int 0), (0, .ref z_o), (1, .ref h_o)]) hx hb (tb_at tk_X3_fullest 3 rfl) rfl hl (by decide) rfl (fun ls hl => ?_)
  refine lv_iconst (pc := 4) (v := 1) hx hb (tb_at tk_X3_fullest 4 rfl) (by decide) ?_
  refine lv_istore (pc := 5) (lv' := [(4, .int 1), (3, .int 0), (2, .int 0), (0, .ref z_o), (1, .ref h_o)]) hx hb (tb_at tk_X3_fullest 5 rfl) hl (by decide) rfl (fun ls hl => ?_)
  have w7 : ∀ (n : Nat), ∀ (y2_l7 : Int32) (y3_l7 : Int32) (y4_l7 : Int32) (H : Heap) (locs : List Loc) (ls : Array Slot), f_X3_fullest_l7 h_bitCount h_bits k N n y2_l7 y3_l7 y4_l7 = some res → PD (dC, dI) A (w_X3_fullest cI cZ cQ cW z_o z_sums_a z_hours_a h_o h_has_a h_left_a h_bits_a h_bitCount h_given h_made h_gone h_law h_bits) H → va_S A s.heap H locs → lv_has ls 6 [(1, .ref h_o), (2, .int y2_l7), (3, .int y3_l7), (4, .int y4_l7)] → W p l e rm_X3_fullest s m args below meth c H locs 0 0 Q (F0 m 7 ls []) := by
    intro n
    induction n with
    | zero => intro y2_l7 y3_l7 y4_l7 H locs ls h; exact no_n h
    | succ n7 ih7 =>
      intro y2_l7 y3_l7 y4_l7 H locs ls h hW hS hl
      rw [f_X3_fullest_l7] at h
      refine lv_iload (pc := 7) hx hb (tb_at tk_X3_fullest 6 rfl) (lv_at hl 3 rfl) ?_
      refine lv_iconst (pc := 9) (v := 1) hx hb (tb_at tk_X3_fullest 7 rfl) (by decide) ?_
      refine lv_aload_n (pc := 10) hx hb (tb_at tk_X3_fullest 8 rfl) rfl (lv_at hl 0 rfl) ?_
      refine k_get (pc := 11) (v := .int h_bitCount) (T := TX0) B inG0 hW 1 rfl rfl 3 (by decide) q_f_X3_18 rfl rfl (tb_at tk_X3_fullest 9 rfl) ?_
      refine lv_ishl (pc := 14) hx hb (tb_at tk_X3_fullest 10 rfl) ?_
      refine lv_icmp_ge (pc := 15) (tgt := 51) hx hb (tb_at tk_X3_fullest 11 rfl) (by decide) (fun cc => ?_) (fun cc => ?_)
      · have h := it_t cc h
        refine lv_iload_n (pc := 51) hx hb (tb_at tk_X3_fullest 28 rfl) rfl (lv_at hl 1 rfl) ?_
        exact hQ y2_l7 () _ _ _ 52 rfl h hW hS (tb_at tk_X3_fullest 29 rfl)
      · have h := it_f cc h
        refine lv_aload_n (pc := 18) hx hb (tb_at tk_X3_fullest 12 rfl) rfl (lv_at hl 0 rfl) ?_
        refine lv_iload (pc := 19) hx hb (tb_at tk_X3_fullest 13 rfl) (lv_at hl 3 rfl) ?_
        refine k_calli (pc := 21) B (k_runVi (rest := []) (C := RX0) B (c_X0_minutes l dC dI cI cZ cQ cW h_o h_has_a h_left_a h_bits_a h_bitCount h_given h_made h_gone h_law h_bits y4_l7 N _ res h) E0_st (fun _ _ _ => trivial) q_c_X0_minutes q_m_X3_24 q_i_X0_minutes q_s_X0_minutes q_n_X0 hd_X0_minutes ⟨rfl, rfl⟩ ⟨Nat.le_of_ble_eq_true rfl, Nat.le_of_ble_eq_true rfl⟩ hW [1, 2] rfl (by decide +kernel) (q0 := 0) (ci := 0) rfl rfl rfl hl.1 rfl (Nat.le_of_ble_eq_true rfl) (tb_at tk_X3_fullest 14 rfl) ⟨Nat.zero_le _, Nat.zero_le _⟩) hW hS [1, 2] rfl [h_o, h_bits_a] rfl (fun _ => rfl) [none, some 0, some 1] (by decide +kernel) (fun _ => (w_X3_fullest cI cZ cQ cW z_o z_sums_a z_hours_a h_o h_has_a h_left_a h_bits_a h_bitCount h_given h_made h_gone h_law h_bits)) (fun _ => rfl) (fun r21 u H locs h hW hS => ?_)
        have hW : PD (dC, dI) A (w_X3_fullest cI cZ cQ cW z_o z_sums_a z_hours_a h_o h_has_a h_left_a h_bits_a h_bitCount h_given h_made h_gone h_law h_bits) H := hW
        refine lv_istore (pc := 24) (lv' := [(5, .int r21), (1, .ref h_o), (2, .int y2_l7), (3, .int y3_l7), (4, .int y4_l7)]) hx hb (tb_at tk_X3_fullest 15 rfl) hl (by decide) rfl (fun ls hl => ?_)
        refine lv_iload (pc := 26) hx hb (tb_at tk_X3_fullest 16 rfl) (lv_at hl 0 rfl) ?_
        refine lv_bipush (pc := 28) (v := 60) hx hb (tb_at tk_X3_fullest 17 rfl) (by decide) ?_
        refine lv_icmp_gt (pc := 30) (tgt := 45) hx hb (tb_at tk_X3_fullest 18 rfl) (by decide) (fun cc => ?_) (fun cc => ?_)
        · have h := it_t cc h
          refine lv_iinc (pc := 45) (v := y4_l7 + 1) (lv' := [(4, .int (y4_l7 + 1)), (5, .int r21), (1, .ref h_o), (2, .int y2_l7), (3, .int y3_l7)]) hx hb (tb_at tk_X3_fullest 26 rfl) hl (k := 4) rfl rfl (by decide) rfl (fun ls hl => ?_)
          refine lv_goto (pc := 48) (tgt := 7) hx hb (tb_at tk_X3_fullest 27 rfl) (by decide) ?_
          exact ih7 y2_l7 y3_l7 (y4_l7 + 1) _ _ _ h hW hS (lv_sub hl [2, 3, 4, 0] rfl)
        · have h := it_f cc h
          refine lv_iload (pc := 33) hx hb (tb_at tk_X3_fullest 19 rfl) (lv_at hl 0 rfl) ?_
          refine lv_iload_n (pc := 35) hx hb (tb_at tk_X3_fullest 20 rfl) rfl (lv_at hl 3 rfl) ?_
          refine lv_icmp_le (pc := 36) (tgt := 45) hx hb (tb_at tk_X3_fullest 21 rfl) (by decide) (fun cc => ?_) (fun cc => ?_)
          · have h := it_t cc h
            refine lv_iinc (pc := 45) (v := y4_l7 + 1) (lv' := [(4, .int (y4_l7 + 1)), (5, .int r21), (1, .ref h_o), (2, .int y2_l7), (3, .int y3_l7)]) hx hb (tb_at tk_X3_fullest 26 rfl) hl (k := 4) rfl rfl (by decide) rfl (fun ls hl => ?_)
            refine lv_goto (pc := 48) (tgt := 7) hx hb (tb_at tk_X3_fullest 27 rfl) (by decide) ?_
            exact ih7 y2_l7 y3_l7 (y4_l7 + 1) _ _ _ h hW hS (lv_sub hl [2, 3, 4, 0] rfl)
          · have h := it_f cc h
            refine lv_iload (pc := 39) hx hb (tb_at tk_X3_fullest 22 rfl) (lv_at hl 4 rfl) ?_
            refine lv_istore_n (pc := 41) (lv' := [(2, .int y4_l7), (5, .int r21), (1, .ref h_o), (3, .int y3_l7), (4, .int y4_l7)]) hx hb (tb_at tk_X3_fullest 23 rfl) rfl hl (by decide) rfl (fun ls hl => ?_)
            refine lv_iload (pc := 42) hx hb (tb_at tk_X3_fullest 24 rfl) (lv_at hl 1 rfl) ?_
            refine lv_istore_n (pc := 44) (lv' := [(3, .int r21), (2, .int y4_l7), (5, .int r21), (1, .ref h_o), (4, .int y4_l7)]) hx hb (tb_at tk_X3_fullest 25 rfl) rfl hl (by decide) rfl (fun ls hl => ?_)
            refine lv_iinc (pc := 45) (v := y4_l7 + 1) (lv' := [(4, .int (y4_l7 + 1)), (3, .int r21), (2, .int y4_l7), (5, .int r21), (1, .ref h_o)]) hx hb (tb_at tk_X3_fullest 26 rfl) hl (k := 4) rfl rfl (by decide) rfl (fun ls hl => ?_)
            refine lv_goto (pc := 48) (tgt := 7) hx hb (tb_at tk_X3_fullest 27 rfl) (by decide) ?_
            exact ih7 y4_l7 r21 (y4_l7 + 1) _ _ _ h hW hS (lv_sub hl [4, 2, 1, 0] rfl)
  exact w7 N 0 0 1 _ _ _ h hW hS (lv_sub hl [4, 2, 1, 0] rfl)
def f_X3_hoursOf_j67 {ρ : Type} (x1 : Int32) (y4_l25 : Int32) (kb25 : Int32 → Int32 → Option ρ) (y3_j67 : Int32) : Option ρ := kb25 y3_j67 ((y4_l25 - 1) &&& x1)
def f_X3_hoursOf_l25 {ρ : Type} (x1 : Int32) (z_hours : Nat → Int32) (z_sums : Nat → Int32) (k : Int32 → Option ρ) : Nat → Int32 → Int32 → Option ρ
  | 0, _, _ => none
  | n25 + 1, y3_l25, y4_l25 => if y4_l25 ≤ 0 then (k y3_l25) else (if (y4_l25 &&& (x1 &&& (-x1))) = 0 then (f_X3_hoursOf_j67 x1 y4_l25 (f_X3_hoursOf_l25 x1 z_hours z_sums k n25) y3_l25) else (ck (ivi y4_l25 256) (if (z_sums (y4_l25).toNatClampNeg) = 60 then (ck (ivi (x1 &&& (y4_l25 ^^^ (-1))) 256) (f_X3_hoursOf_j67 x1 y4_l25 (f_X3_hoursOf_l25 x1 z_hours z_sums k n25) (if y3_l25 < ((1 : Int32) + (z_hours (x1 &&& (y4_l25 ^^^ (-1))).toNatClampNeg)) then ((1 : Int32) + (z_hours (x1 &&& (y4_l25 ^^^ (-1))).toNatClampNeg)) else y3_l25))) else (f_X3_hoursOf_j67 x1 y4_l25 (f_X3_hoursOf_l25 x1 z_hours z_sums k n25) y3_l25))))
def f_X3_hoursOf {ρ : Type} (N : Nat) (z_hours : Nat → Int32) (z_sums : Nat → Int32) (x1 : Int32) (k : Int32 → Option ρ) : Option ρ := if x1 = 0 then (k 0) else (ck (ivi (x1 &&& ((x1 &&& (-x1)) ^^^ (-1))) 256) (f_X3_hoursOf_l25 x1 z_hours z_sums k N (z_hours (x1 &&& ((x1 &&& (-x1)) ^^^ (-1))).toNatClampNeg) x1))
abbrev w_X3_hoursOf (cI cZ cQ cW : ClassId) (z_o : Nat) (z_sums_a : Nat) (z_hours_a : Nat) (z_hours : Nat → Int32) (z_sums : Nat → Int32) : va_W := [(z_o, .inr (3, [.ref z_sums_a, .ref z_hours_a])), (z_hours_a, .inl (cI, 256, .inl z_hours)), (z_sums_a, .inl (cI, 256, .inl z_sums))]
abbrev rm_X3_hoursOf : Room := { frames := 1, cells := 0, slots := 0, locals := 21 }
set_option maxHeartbeats 4000000 in
set_option maxRecDepth 100000 in
theorem c_X3_hoursOf (l : Launch) (dC : Nat → ClassId) (dI : Nat → Nat → Nat) (cI cZ cQ cW : ClassId) (z_o : Nat) (z_sums_a : Nat) (z_hours_a : Nat) (z_hours : Nat → Int32) (z_sums : Nat → Int32) (x1 : Int32) {ρ : Type} (N : Nat) (k : Int32 → Option ρ) (res : ρ) (h : f_X3_hoursOf N z_hours z_sums x1 k = some res) : Ci l yX3_hoursOf (WS yX3_hoursOf cX3_hoursOf 5 (some .int)) rm_X3_hoursOf (dC, dI) (tysG cI cZ cQ cW) E0 [.ref z_o, .int x1] (w_X3_hoursOf cI cZ cQ cW z_o z_sums_a z_hours_a z_hours z_sums) (fun (_ : Unit) => (w_X3_hoursOf cI cZ cQ cW z_o z_sums_a z_hours_a z_hours z_sums)) (fun r _ => k r = some res) := by
  refine Ci.of (cc := cX3_hoursOf) (n := 5) (by decide +kernel) (Nat.le_of_ble_eq_true rfl) ?_
  intro p e s m args below meth c A ls Q B hW hE hS hl hQ
  have hx := B.1
  have hb := B.2.1
  have hl : lv_has ls 5 [(0, .ref z_o), (1, .int x1)] := hl
  unfold f_X3_hoursOf at h
  refine lv_iload_n (pc := 0) hx hb (tb_at tk_X3_hoursOf 0 rfl) rfl (lv_at hl 1 rfl) ?_
  refine lv_if_ne (pc := 1) (tgt := 6) hx hb (tb_at tk_X3_hoursOf 1 rfl) (by decide) (fun cc => ?_) (fun cc => ?_)
  · have h := it_f cc h
    refine lv_iload_n (pc := 6) hx hb (tb_at tk_X3_hoursOf 4 rfl) rfl (lv_at hl 1 rfl) ?_
    refine lv_iload_n (pc := 7) hx hb (tb_at tk_X3_hoursOf 5 rfl) rfl (lv_at hl 1 rfl) ?_
    refine lv_ineg (pc := 8) hx hb (tb_at tk_X3_hoursOf 6 rfl) ?_
    refine lv_iand (pc := 9) hx hb (tb_at tk_X3_hoursOf 7 rfl) ?_
    refine lv_istore_n (pc := 10) (lv' := [(2, .int (x1 &&& (-x1))), (0, .ref z_o), (1, .int x1)]) hx hb (tb_at tk_X3_hoursOf 8 rfl) rfl hl (by decide) rfl (fun ls hl => ?_)
    refine lv_aload_n (pc := 11) hx hb (tb_at tk_X3_hoursOf 9 rfl) rfl (lv_at hl 1 rfl) ?_
    refine k_get (pc := 12) (v := .ref z_hours_a) (T := TX3) B inG3 hW 0 rfl rfl 1 (by decide) q_f_X3_15 rfl rfl (tb_at tk_X3_hoursOf 10 rfl) ?_
    refine lv_iload_n (pc := 15) hx hb (tb_at tk_X3_hoursOf 11 rfl) rfl (lv_at hl 2 rfl) ?_
    refine lv_iload_n (pc := 16) hx hb (tb_at tk_X3_hoursOf 12 rfl) rfl (lv_at hl 0 rfl) ?_
    refine lv_iconst (pc := 17) (v := (-1)) hx hb (tb_at tk_X3_hoursOf 13 rfl) (by decide) ?_
    refine lv_ixor (pc := 18) hx hb (tb_at tk_X3_hoursOf 14 rfl) ?_
    refine lv_iand (pc := 19) hx hb (tb_at tk_X3_hoursOf 15 rfl) ?_
    have ii := ivi_in (ck_l h)
    have h := ck_r h
    refine k_iald (pc := 20) B hW 1 0 rfl rfl ii (tb_at tk_X3_hoursOf 16 rfl) ?_
    refine lv_istore_n (pc := 21) (lv' := [(3, .int (z_hours (x1 &&& ((x1 &&& (-x1)) ^^^ (-1))).toNatClampNeg)), (2, .int (x1 &&& (-x1))), (0, .ref z_o), (1, .int x1)]) hx hb (tb_at tk_X3_hoursOf 17 rfl) rfl hl (by decide) rfl (fun ls hl => ?_)
    refine lv_iload_n (pc := 22) hx hb (tb_at tk_X3_hoursOf 18 rfl) rfl (lv_at hl 3 rfl) ?_
    refine lv_istore (pc := 23) (lv' := [(4, .int x1), (3, .int (z_hours (x1 &&& ((x1 &&& (-x1)) ^^^ (-1))).toNatClampNeg)), (2, .int (x1 &&& (-x1))), (0, .ref z_o), (1, .int x1)]) hx hb (tb_at tk_X3_hoursOf 19 rfl) hl (by decide) rfl (fun ls hl => ?_)
    have w25 : ∀ (n : Nat), ∀ (y3_l25 : Int32) (y4_l25 : Int32) (H : Heap) (locs : List Loc) (ls : Array Slot), f_X3_hoursOf_l25 x1 z_hours z_sums k n y3_l25 y4_l25 = some res → PD (dC, dI) A (w_X3_hoursOf cI cZ cQ cW z_o z_sums_a z_hours_a z_hours z_sums) H → va_S A s.heap H locs → lv_has ls 5 [(0, .ref z_o), (1, .int x1), (2, .int (x1 &&& (-x1))), (3, .int y3_l25), (4, .int y4_l25)] → W p l e rm_X3_hoursOf s m args below meth c H locs 0 0 Q (F0 m 25 ls []) := by
      intro n
      induction n with
      | zero => intro y3_l25 y4_l25 H locs ls h; exact no_n h
      | succ n25 ih25 =>
        intro y3_l25 y4_l25 H locs ls h hW hS hl
        rw [f_X3_hoursOf_l25] at h
        refine lv_iload (pc := 25) hx hb (tb_at tk_X3_hoursOf 20 rfl) (lv_at hl 4 rfl) ?_
        refine lv_if_le (pc := 27) (tgt := 78) hx hb (tb_at tk_X3_hoursOf 21 rfl) (by decide) (fun cc => ?_) (fun cc => ?_)
        · have h := it_t cc h
          refine lv_iload_n (pc := 78) hx hb (tb_at tk_X3_hoursOf 52 rfl) rfl (lv_at hl 3 rfl) ?_
          exact hQ y3_l25 () _ _ _ 79 rfl h hW hS (tb_at tk_X3_hoursOf 53 rfl)
        · have h := it_f cc h
          refine lv_iload (pc := 30) hx hb (tb_at tk_X3_hoursOf 22 rfl) (lv_at hl 4 rfl) ?_
          refine lv_iload_n (pc := 32) hx hb (tb_at tk_X3_hoursOf 23 rfl) rfl (lv_at hl 2 rfl) ?_
          refine lv_iand (pc := 33) hx hb (tb_at tk_X3_hoursOf 24 rfl) ?_
          have w67 : ∀ (y3_j67 : Int32) (H : Heap) (locs : List Loc) (ls : Array Slot), f_X3_hoursOf_j67 x1 y4_l25 (f_X3_hoursOf_l25 x1 z_hours z_sums k n25) y3_j67 = some res → PD (dC, dI) A (w_X3_hoursOf cI cZ cQ cW z_o z_sums_a z_hours_a z_hours z_sums) H → va_S A s.heap H locs → lv_has ls 5 [(0, .ref z_o), (1, .int x1), (2, .int (x1 &&& (-x1))), (3, .int y3_j67), (4, .int y4_l25)] → W p l e rm_X3_hoursOf s m args below meth c H locs 0 0 Q (F0 m 67 ls []) := by
            intro y3_j67 H locs ls h hW hS hl
            unfold f_X3_hoursOf_j67 at h
            refine lv_iload (pc := 67) hx hb (tb_at tk_X3_hoursOf 45 rfl) (lv_at hl 4 rfl) ?_
            refine lv_iconst (pc := 69) (v := 1) hx hb (tb_at tk_X3_hoursOf 46 rfl) (by decide) ?_
            refine lv_isub (pc := 70) hx hb (tb_at tk_X3_hoursOf 47 rfl) ?_
            refine lv_iload_n (pc := 71) hx hb (tb_at tk_X3_hoursOf 48 rfl) rfl (lv_at hl 1 rfl) ?_
            refine lv_iand (pc := 72) hx hb (tb_at tk_X3_hoursOf 49 rfl) ?_
            refine lv_istore (pc := 73) (lv' := [(4, .int ((y4_l25 - 1) &&& x1)), (0, .ref z_o), (1, .int x1), (2, .int (x1 &&& (-x1))), (3, .int y3_j67)]) hx hb (tb_at tk_X3_hoursOf 50 rfl) hl (by decide) rfl (fun ls hl => ?_)
            refine lv_goto (pc := 75) (tgt := 25) hx hb (tb_at tk_X3_hoursOf 51 rfl) (by decide) ?_
            exact ih25 y3_j67 ((y4_l25 - 1) &&& x1) _ _ _ h hW hS (lv_sub hl [1, 2, 3, 4, 0] rfl)
          refine lv_if_eq (pc := 34) (tgt := 67) hx hb (tb_at tk_X3_hoursOf 25 rfl) (by decide) (fun cc => ?_) (fun cc => ?_)
          · have h := it_t cc h
            exact w67 y3_l25 _ _ _ h hW hS (lv_sub hl [0, 1, 2, 3, 4] rfl)
          · have h := it_f cc h
            refine lv_aload_n (pc := 37) hx hb (tb_at tk_X3_hoursOf 26 rfl) rfl (lv_at hl 0 rfl) ?_
            refine k_get (pc := 38) (v := .ref z_sums_a) (T := TX3) B inG3 hW 0 rfl rfl 0 (by decide) q_f_X3_11 rfl rfl (tb_at tk_X3_hoursOf 27 rfl) ?_
            refine lv_iload (pc := 41) hx hb (tb_at tk_X3_hoursOf 28 rfl) (lv_at hl 4 rfl) ?_
            have ii := ivi_in (ck_l h)
            have h := ck_r h
            refine k_iald (pc := 43) B hW 2 0 rfl rfl ii (tb_at tk_X3_hoursOf 29 rfl) ?_
            refine lv_bipush (pc := 44) (v := 60) hx hb (tb_at tk_X3_hoursOf 30 rfl) (by decide) ?_
            refine lv_icmp_ne (pc := 46) (tgt := 67) hx hb (tb_at tk_X3_hoursOf 31 rfl) (by decide) (fun cc => ?_) (fun cc => ?_)
            · have h := it_f cc h
              exact w67 y3_l25 _ _ _ h hW hS (lv_sub hl [0, 1, 2, 3, 4] rfl)
            · have h := it_t cc h
              refine lv_iload_n (pc := 49) hx hb (tb_at tk_X3_hoursOf 32 rfl) rfl (lv_at hl 3 rfl) ?_
              refine lv_iconst (pc := 50) (v := 1) hx hb (tb_at tk_X3_hoursOf 33 rfl) (by decide) ?_
              refine lv_aload_n (pc := 51) hx hb (tb_at tk_X3_hoursOf 34 rfl) rfl (lv_at hl 0 rfl) ?_
              refine k_get (pc := 52) (v := .ref z_hours_a) (T := TX3) B inG3 hW 0 rfl rfl 1 (by decide) q_f_X3_15 rfl rfl (tb_at tk_X3_hoursOf 35 rfl) ?_
              refine lv_iload_n (pc := 55) hx hb (tb_at tk_X3_hoursOf 36 rfl) rfl (lv_at hl 1 rfl) ?_
              refine lv_iload (pc := 56) hx hb (tb_at tk_X3_hoursOf 37 rfl) (lv_at hl 4 rfl) ?_
              refine lv_iconst (pc := 58) (v := (-1)) hx hb (tb_at tk_X3_hoursOf 38 rfl) (by decide) ?_
              refine lv_ixor (pc := 59) hx hb (tb_at tk_X3_hoursOf 39 rfl) ?_
              refine lv_iand (pc := 60) hx hb (tb_at tk_X3_hoursOf 40 rfl) ?_
              have ii := ivi_in (ck_l h)
              have h := ck_r h
              refine k_iald (pc := 61) B hW 1 0 rfl rfl ii (tb_at tk_X3_hoursOf 41 rfl) ?_
              refine lv_iadd (pc := 62) hx hb (tb_at tk_X3_hoursOf 42 rfl) ?_
              refine va_mmax (pc := 63) hx hb (B.2.2.2.1.trans hl.1.symm) B.2.2.2.2.1 (B.2.2.2.2.2.1 _ q_m_X3_31) (B.2.2.2.2.2.1 _ q_t_J9_max_7cf53) (B.2.2.2.2.2.1 _ q_n_J9) (B.2.2.2.2.2.1 _ q_c_J9_max_7cf53) (Nat.le_of_ble_eq_true rfl) (Nat.le_of_ble_eq_true rfl) (Nat.zero_le _) (Nat.zero_le _) (tb_at tk_X3_hoursOf 43 rfl) ?_
              refine lv_istore_n (pc := 66) (lv' := [(3, .int (if y3_l25 < ((1 : Int32) + (z_hours (x1 &&& (y4_l25 ^^^ (-1))).toNatClampNeg)) then ((1 : Int32) + (z_hours (x1 &&& (y4_l25 ^^^ (-1))).toNatClampNeg)) else y3_l25)), (0, .ref z_o), (1, .int x1), (2, .int (x1 &&& (-x1))), (4, .int y4_l25)]) hx hb (tb_at tk_X3_hoursOf 44 rfl) rfl hl (by decide) rfl (fun ls hl => ?_)
              exact w67 (if y3_l25 < ((1 : Int32) + (z_hours (x1 &&& (y4_l25 ^^^ (-1))).toNatClampNeg)) then ((1 : Int32) + (z_hours (x1 &&& (y4_l25 ^^^ (-1))).toNatClampNeg)) else y3_l25) _ _ _ h hW hS (lv_sub hl [1, 2, 3, 0, 4] rfl)
    exact w25 N (z_hours (x1 &&& ((x1 &&& (-x1)) ^^^ (-1))).toNatClampNeg) x1 _ _ _ h hW hS (lv_sub hl [3, 4, 2, 1, 0] rfl)
  · have h := it_t cc h
    refine lv_iconst (pc := 4) (v := 0) hx hb (tb_at tk_X3_hoursOf 2 rfl) (by decide) ?_
    exact hQ 0 () _ _ _ 5 rfl h hW hS (tb_at tk_X3_hoursOf 3 rfl)
def f_X3_mostHours_e42 {ρ : Type} (h_bitCount : Int32) (k : Int32 → (Nat → Int32) → (Nat → Int32) → Option ρ) (z_sums_e42 : Nat → Int32) (z_hours_e42 : Nat → Int32) : Option ρ := ck (ivi (((1 : Int32) <<< (h_bitCount &&& 31)) - 1) 256) (k (z_hours_e42 (((1 : Int32) <<< (h_bitCount &&& 31)) - 1).toNatClampNeg) z_sums_e42 z_hours_e42)
def f_X3_mostHours_l9 {ρ : Type} (h_bitCount : Int32) (h_bits : Nat → Int32) (k42 : (Nat → Int32) → (Nat → Int32) → Option ρ) (N : Nat) : Nat → Int32 → (Nat → Int32) → (Nat → Int32) → Option ρ
  | 0, _, _, _ => none
  | n9 + 1, y3_l9, z_sums_l9, z_hours_l9 => if ((1 : Int32) <<< (h_bitCount &&& 31)) ≤ y3_l9 then (k42 z_sums_l9 z_hours_l9) else (f_X0_minutes N h_bitCount h_bits y3_l9 (fun r21 => ck (ivi y3_l9 256) (f_X3_hoursOf N z_hours_l9 (upd z_sums_l9 (y3_l9).toNatClampNeg r21) y3_l9 (fun r32 => ck (ivi y3_l9 256) ((f_X3_mostHours_l9 h_bitCount h_bits k42 N n9) (y3_l9 + 1) (upd z_sums_l9 (y3_l9).toNatClampNeg r21) (upd z_hours_l9 (y3_l9).toNatClampNeg r32))))))
def f_X3_mostHours {ρ : Type} (N : Nat) (h_bitCount : Int32) (h_bits : Nat → Int32) (z_sums : Nat → Int32) (z_hours : Nat → Int32) (k : Int32 → (Nat → Int32) → (Nat → Int32) → Option ρ) : Option ρ := f_X3_mostHours_l9 h_bitCount h_bits (fun z_sums_e42 z_hours_e42 => f_X3_mostHours_e42 h_bitCount k z_sums_e42 z_hours_e42) N N 0 z_sums z_hours
abbrev w_X3_mostHours (cI cZ cQ cW : ClassId) (z_o : Nat) (z_sums_a : Nat) (z_hours_a : Nat) (h_o : Nat) (h_has_a : Nat) (h_left_a : Nat) (h_bits_a : Nat) (h_bitCount : Int32) (h_given : Int32) (h_made : Int32) (h_gone : Int32) (h_law : Int32) (h_bits : Nat → Int32) (z_sums : Nat → Int32) (z_hours : Nat → Int32) : va_W := [(z_o, .inr (3, [.ref z_sums_a, .ref z_hours_a])), (h_o, .inr (0, [.ref h_has_a, .ref h_left_a, .ref h_bits_a, .int h_bitCount, .int h_given, .int h_made, .int h_gone, .int h_law])), (h_bits_a, .inl (cI, 8, .inl h_bits)), (z_sums_a, .inl (cI, 256, .inl z_sums)), (z_hours_a, .inl (cI, 256, .inl z_hours))]
abbrev rm_X3_mostHours : Room := { frames := 2, cells := 0, slots := 0, locals := 45 }
set_option maxHeartbeats 4000000 in
set_option maxRecDepth 100000 in
theorem c_X3_mostHours (l : Launch) (dC : Nat → ClassId) (dI : Nat → Nat → Nat) (cI cZ cQ cW : ClassId) (z_o : Nat) (z_sums_a : Nat) (z_hours_a : Nat) (h_o : Nat) (h_has_a : Nat) (h_left_a : Nat) (h_bits_a : Nat) (h_bitCount : Int32) (h_given : Int32) (h_made : Int32) (h_gone : Int32) (h_law : Int32) (h_bits : Nat → Int32) (z_sums : Nat → Int32) (z_hours : Nat → Int32) {ρ : Type} (N : Nat) (k : Int32 → (Nat → Int32) → (Nat → Int32) → Option ρ) (res : ρ) (h : f_X3_mostHours N h_bitCount h_bits z_sums z_hours k = some res) : Ci l yX3_mostHours (WS yX3_mostHours cX3_mostHours 4 (some .int)) rm_X3_mostHours (dC, dI) (tysG cI cZ cQ cW) E0 [.ref z_o, .ref h_o] (w_X3_mostHours cI cZ cQ cW z_o z_sums_a z_hours_a h_o h_has_a h_left_a h_bits_a h_bitCount h_given h_made h_gone h_law h_bits z_sums z_hours) (fun (u : (Nat → Int32) × (Nat → Int32)) => (w_X3_mostHours cI cZ cQ cW z_o z_sums_a z_hours_a h_o h_has_a h_left_a h_bits_a h_bitCount h_given h_made h_gone h_law h_bits u.1 u.2)) (fun r u => k r u.1 u.2 = some res) := by
  refine Ci.of (cc := cX3_mostHours) (n := 4) (by decide +kernel) (Nat.le_of_ble_eq_true rfl) ?_
  intro p e s m args below meth c A ls Q B hW hE hS hl hQ
  have hx := B.1
  have hb := B.2.1
  have hl : lv_has ls 4 [(0, .ref z_o), (1, .ref h_o)] := hl
  unfold f_X3_mostHours at h
  refine lv_iconst (pc := 0) (v := 1) hx hb (tb_at tk_X3_mostHours 0 rfl) (by decide) ?_
  refine lv_aload_n (pc := 1) hx hb (tb_at tk_X3_mostHours 1 rfl) rfl (lv_at hl 1 rfl) ?_
  refine k_get (pc := 2) (v := .int h_bitCount) (T := TX0) B inG0 hW 1 rfl rfl 3 (by decide) q_f_X3_18 rfl rfl (tb_at tk_X3_mostHours 2 rfl) ?_
  refine lv_ishl (pc := 5) hx hb (tb_at tk_X3_mostHours 3 rfl) ?_
  refine lv_istore_n (pc := 6) (lv' := [(2, .int ((1 : Int32) <<< (h_bitCount &&& 31))), (0, .ref z_o), (1, .ref h_o)]) hx hb (tb_at tk_X3_mostHours 4 rfl) rfl hl (by decide) rfl (fun ls hl => ?_)
  refine lv_iconst (pc := 7) (v := 0) hx hb (tb_at tk_X3_mostHours 5 rfl) (by decide) ?_
  refine lv_istore_n (pc := 8) (lv' := [(3, .int 0), (2, .int ((1 : Int32) <<< (h_bitCount &&& 31))), (0, .ref z_o), (1, .ref h_o)]) hx hb (tb_at tk_X3_mostHours 6 rfl) rfl hl (by decide) rfl (fun ls hl => ?_)
  have w42 : ∀ (z_sums_e42 : Nat → Int32) (z_hours_e42 : Nat → Int32) (H : Heap) (locs : List Loc) (ls : Array Slot), f_X3_mostHours_e42 h_bitCount k z_sums_e42 z_hours_e42 = some res → PD (dC, dI) A (w_X3_mostHours cI cZ cQ cW z_o z_sums_a z_hours_a h_o h_has_a h_left_a h_bits_a h_bitCount h_given h_made h_gone h_law h_bits z_sums_e42 z_hours_e42) H → va_S A s.heap H locs → lv_has ls 4 [(0, .ref z_o), (2, .int ((1 : Int32) <<< (h_bitCount &&& 31)))] → W p l e rm_X3_mostHours s m args below meth c H locs 0 0 Q (F0 m 42 ls []) := by
    intro z_sums_e42 z_hours_e42 H locs ls h hW hS hl
    unfold f_X3_mostHours_e42 at h
    refine lv_aload_n (pc := 42) hx hb (tb_at tk_X3_mostHours 26 rfl) rfl (lv_at hl 0 rfl) ?_
    refine k_get (pc := 43) (v := .ref z_hours_a) (T := TX3) B inG3 hW 0 rfl rfl 1 (by decide) q_f_X3_15 rfl rfl (tb_at tk_X3_mostHours 27 rfl) ?_
    refine lv_iload_n (pc := 46) hx hb (tb_at tk_X3_mostHours 28 rfl) rfl (lv_at hl 1 rfl) ?_
    refine lv_iconst (pc := 47) (v := 1) hx hb (tb_at tk_X3_mostHours 29 rfl) (by decide) ?_
    refine lv_isub (pc := 48) hx hb (tb_at tk_X3_mostHours 30 rfl) ?_
    have ii := ivi_in (ck_l h)
    have h := ck_r h
    refine k_iald (pc := 49) B hW 4 0 rfl rfl ii (tb_at tk_X3_mostHours 31 rfl) ?_
    exact hQ (z_hours_e42 (((1 : Int32) <<< (h_bitCount &&& 31)) - 1).toNatClampNeg) (z_sums_e42, z_hours_e42) _ _ _ 50 rfl h hW hS (tb_at tk_X3_mostHours 32 rfl)
  have w9 : ∀ (n : Nat), ∀ (y3_l9 : Int32) (z_sums_l9 : Nat → Int32) (z_hours_l9 : Nat → Int32) (H : Heap) (locs : List Loc) (ls : Array Slot), f_X3_mostHours_l9 h_bitCount h_bits (fun z_sums_e42 z_hours_e42 => f_X3_mostHours_e42 h_bitCount k z_sums_e42 z_hours_e42) N n y3_l9 z_sums_l9 z_hours_l9 = some res → PD (dC, dI) A (w_X3_mostHours cI cZ cQ cW z_o z_sums_a z_hours_a h_o h_has_a h_left_a h_bits_a h_bitCount h_given h_made h_gone h_law h_bits z_sums_l9 z_hours_l9) H → va_S A s.heap H locs → lv_has ls 4 [(0, .ref z_o), (1, .ref h_o), (2, .int ((1 : Int32) <<< (h_bitCount &&& 31))), (3, .int y3_l9)] → W p l e rm_X3_mostHours s m args below meth c H locs 0 0 Q (F0 m 9 ls []) := by
    intro n
    induction n with
    | zero => intro y3_l9 z_sums_l9 z_hours_l9 H locs ls h; exact no_n h
    | succ n9 ih9 =>
      intro y3_l9 z_sums_l9 z_hours_l9 H locs ls h hW hS hl
      rw [f_X3_mostHours_l9] at h
      refine lv_iload_n (pc := 9) hx hb (tb_at tk_X3_mostHours 7 rfl) rfl (lv_at hl 3 rfl) ?_
      refine lv_iload_n (pc := 10) hx hb (tb_at tk_X3_mostHours 8 rfl) rfl (lv_at hl 2 rfl) ?_
      refine lv_icmp_ge (pc := 11) (tgt := 42) hx hb (tb_at tk_X3_mostHours 9 rfl) (by decide) (fun cc => ?_) (fun cc => ?_)
      · have h := it_t cc h
        exact w42 z_sums_l9 z_hours_l9 _ _ _ h hW hS (lv_sub hl [0, 2] rfl)
      · have h := it_f cc h
        refine lv_aload_n (pc := 14) hx hb (tb_at tk_X3_mostHours 10 rfl) rfl (lv_at hl 0 rfl) ?_
        refine k_get (pc := 15) (v := .ref z_sums_a) (T := TX3) B inG3 hW 0 rfl rfl 0 (by decide) q_f_X3_11 rfl rfl (tb_at tk_X3_mostHours 11 rfl) ?_
        refine lv_iload_n (pc := 18) hx hb (tb_at tk_X3_mostHours 12 rfl) rfl (lv_at hl 3 rfl) ?_
        refine lv_aload_n (pc := 19) hx hb (tb_at tk_X3_mostHours 13 rfl) rfl (lv_at hl 1 rfl) ?_
        refine lv_iload_n (pc := 20) hx hb (tb_at tk_X3_mostHours 14 rfl) rfl (lv_at hl 3 rfl) ?_
        refine k_calli (pc := 21) B (k_runVi (rest := [.int y3_l9, .ref z_sums_a]) (C := RX0) B (c_X0_minutes l dC dI cI cZ cQ cW h_o h_has_a h_left_a h_bits_a h_bitCount h_given h_made h_gone h_law h_bits y3_l9 N _ res h) E0_st (fun _ _ _ => trivial) q_c_X0_minutes q_m_X3_24 q_i_X0_minutes q_s_X0_minutes q_n_X0 hd_X0_minutes ⟨rfl, rfl⟩ ⟨Nat.le_of_ble_eq_true rfl, Nat.le_of_ble_eq_true rfl⟩ hW [1, 2] rfl (by decide +kernel) (q0 := 0) (ci := 0) rfl rfl rfl hl.1 rfl (Nat.le_of_ble_eq_true rfl) (tb_at tk_X3_mostHours 15 rfl) ⟨Nat.zero_le _, Nat.zero_le _⟩) hW hS [1, 2] rfl [h_o, h_bits_a] rfl (fun _ => rfl) [none, some 0, some 1, none, none] (by decide +kernel) (fun _ => (w_X3_mostHours cI cZ cQ cW z_o z_sums_a z_hours_a h_o h_has_a h_left_a h_bits_a h_bitCount h_given h_made h_gone h_law h_bits z_sums_l9 z_hours_l9)) (fun _ => rfl) (fun r21 u H locs h hW hS => ?_)
        have hW : PD (dC, dI) A (w_X3_mostHours cI cZ cQ cW z_o z_sums_a z_hours_a h_o h_has_a h_left_a h_bits_a h_bitCount h_given h_made h_gone h_law h_bits z_sums_l9 z_hours_l9) H := hW
        have ii := ivi_in (ck_l h)
        have h := ck_r h
        refine k_iast (pc := 24) B hW hS 3 0 rfl rfl ii (tb_at tk_X3_mostHours 16 rfl) (w_X3_mostHours cI cZ cQ cW z_o z_sums_a z_hours_a h_o h_has_a h_left_a h_bits_a h_bitCount h_given h_made h_gone h_law h_bits (upd z_sums_l9 (y3_l9).toNatClampNeg r21) z_hours_l9) rfl (fun H locs hW hS => ?_)
        refine lv_aload_n (pc := 25) hx hb (tb_at tk_X3_mostHours 17 rfl) rfl (lv_at hl 0 rfl) ?_
        refine k_get (pc := 26) (v := .ref z_hours_a) (T := TX3) B inG3 hW 0 rfl rfl 1 (by decide) q_f_X3_15 rfl rfl (tb_at tk_X3_mostHours 18 rfl) ?_
        refine lv_iload_n (pc := 29) hx hb (tb_at tk_X3_mostHours 19 rfl) rfl (lv_at hl 3 rfl) ?_
        refine lv_aload_n (pc := 30) hx hb (tb_at tk_X3_mostHours 20 rfl) rfl (lv_at hl 0 rfl) ?_
        refine lv_iload_n (pc := 31) hx hb (tb_at tk_X3_mostHours 21 rfl) rfl (lv_at hl 3 rfl) ?_
        refine k_calli (pc := 32) B (k_runVi (rest := [.int y3_l9, .ref z_hours_a]) (C := RX3) B (c_X3_hoursOf l dC dI cI cZ cQ cW z_o z_sums_a z_hours_a z_hours_l9 (upd z_sums_l9 (y3_l9).toNatClampNeg r21) y3_l9 N _ res h) E0_st (fun _ _ _ => trivial) q_c_X3_hoursOf q_m_X3_28 q_i_X3_hoursOf q_s_X3_hoursOf q_n_X3 hd_X3_hoursOf ⟨rfl, rfl⟩ ⟨Nat.le_of_ble_eq_true rfl, Nat.le_of_ble_eq_true rfl⟩ hW [0, 4, 3] rfl (by decide +kernel) (q0 := 0) (ci := 3) rfl rfl rfl hl.1 rfl (Nat.le_of_ble_eq_true rfl) (tb_at tk_X3_mostHours 22 rfl) ⟨Nat.zero_le _, Nat.zero_le _⟩) hW hS [0, 4, 3] rfl [z_o, z_hours_a, z_sums_a] rfl (fun _ => rfl) [some 0, none, none, some 2, some 1] (by decide +kernel) (fun _ => (w_X3_mostHours cI cZ cQ cW z_o z_sums_a z_hours_a h_o h_has_a h_left_a h_bits_a h_bitCount h_given h_made h_gone h_law h_bits (upd z_sums_l9 (y3_l9).toNatClampNeg r21) z_hours_l9)) (fun _ => rfl) (fun r32 u H locs h hW hS => ?_)
        have hW : PD (dC, dI) A (w_X3_mostHours cI cZ cQ cW z_o z_sums_a z_hours_a h_o h_has_a h_left_a h_bits_a h_bitCount h_given h_made h_gone h_law h_bits (upd z_sums_l9 (y3_l9).toNatClampNeg r21) z_hours_l9) H := hW
        have ii := ivi_in (ck_l h)
        have h := ck_r h
        refine k_iast (pc := 35) B hW hS 4 0 rfl rfl ii (tb_at tk_X3_mostHours 23 rfl) (w_X3_mostHours cI cZ cQ cW z_o z_sums_a z_hours_a h_o h_has_a h_left_a h_bits_a h_bitCount h_given h_made h_gone h_law h_bits (upd z_sums_l9 (y3_l9).toNatClampNeg r21) (upd z_hours_l9 (y3_l9).toNatClampNeg r32)) rfl (fun H locs hW hS => ?_)
        refine lv_iinc (pc := 36) (v := y3_l9 + 1) (lv' := [(3, .int (y3_l9 + 1)), (0, .ref z_o), (1, .ref h_o), (2, .int ((1 : Int32) <<< (h_bitCount &&& 31)))]) hx hb (tb_at tk_X3_mostHours 24 rfl) hl (k := 3) rfl rfl (by decide) rfl (fun ls hl => ?_)
        refine lv_goto (pc := 39) (tgt := 9) hx hb (tb_at tk_X3_mostHours 25 rfl) (by decide) ?_
        exact ih9 (y3_l9 + 1) (upd z_sums_l9 (y3_l9).toNatClampNeg r21) (upd z_hours_l9 (y3_l9).toNatClampNeg r32) _ _ _ h hW hS (lv_sub hl [1, 2, 3, 0] rfl)
  exact w9 N 0 z_sums z_hours _ _ _ h hW hS (lv_sub hl [2, 3, 1, 0] rfl)
def f_X5_wishOf {ρ : Type} (N : Nat) (p_size : Int32) (h_has : Nat → Int32) (p_wantBits : Nat → Int32) (x0 : Int32) (k : Int32 → Option ρ) : Option ρ := f_X2_knows N p_size x0 (fun r2 => if r2 = 0 then (k 0) else (ck (ivi x0 6) (if (h_has (x0).toNatClampNeg) = (-9) then (k 0) else (ck (ivi x0 6) (k (p_wantBits (x0).toNatClampNeg))))))
abbrev w_X5_wishOf (cI cZ cQ cW : ClassId) (p_o : Nat) (p_weight_a : Nat) (p_nights_a : Nat) (p_wanted_a : Nat) (p_wantCount_a : Nat) (p_wantBits_a : Nat) (h_o : Nat) (h_has_a : Nat) (h_left_a : Nat) (h_bits_a : Nat) (p_size : Int32) (p_law : Int32) (h_bitCount : Int32) (h_given : Int32) (h_made : Int32) (h_gone : Int32) (h_law : Int32) (h_has : Nat → Int32) (p_wantBits : Nat → Int32) : va_W := [(p_o, .inr (2, [.ref p_weight_a, .ref p_nights_a, .ref p_wanted_a, .ref p_wantCount_a, .ref p_wantBits_a, .int p_size, .int p_law])), (h_o, .inr (0, [.ref h_has_a, .ref h_left_a, .ref h_bits_a, .int h_bitCount, .int h_given, .int h_made, .int h_gone, .int h_law])), (h_has_a, .inl (cI, 6, .inl h_has)), (p_wantBits_a, .inl (cI, 6, .inl p_wantBits))]
abbrev rm_X5_wishOf : Room := { frames := 1, cells := 0, slots := 0, locals := 21 }
set_option maxHeartbeats 4000000 in
set_option maxRecDepth 100000 in
theorem c_X5_wishOf (l : Launch) (dC : Nat → ClassId) (dI : Nat → Nat → Nat) (cI cZ cQ cW : ClassId) (p_o : Nat) (p_weight_a : Nat) (p_nights_a : Nat) (p_wanted_a : Nat) (p_wantCount_a : Nat) (p_wantBits_a : Nat) (h_o : Nat) (h_has_a : Nat) (h_left_a : Nat) (h_bits_a : Nat) (p_size : Int32) (p_law : Int32) (h_bitCount : Int32) (h_given : Int32) (h_made : Int32) (h_gone : Int32) (h_law : Int32) (h_has : Nat → Int32) (p_wantBits : Nat → Int32) (x0 : Int32) {ρ : Type} (N : Nat) (k : Int32 → Option ρ) (res : ρ) (h : f_X5_wishOf N p_size h_has p_wantBits x0 k = some res) : Ci l yX5_wishOf (WS yX5_wishOf cX5_wishOf 3 (some .int)) rm_X5_wishOf (dC, dI) (tysG cI cZ cQ cW) E0 [.int x0, .ref p_o, .ref h_o] (w_X5_wishOf cI cZ cQ cW p_o p_weight_a p_nights_a p_wanted_a p_wantCount_a p_wantBits_a h_o h_has_a h_left_a h_bits_a p_size p_law h_bitCount h_given h_made h_gone h_law h_has p_wantBits) (fun (_ : Unit) => (w_X5_wishOf cI cZ cQ cW p_o p_weight_a p_nights_a p_wanted_a p_wantCount_a p_wantBits_a h_o h_has_a h_left_a h_bits_a p_size p_law h_bitCount h_given h_made h_gone h_law h_has p_wantBits)) (fun r _ => k r = some res) := by
  refine Ci.of (cc := cX5_wishOf) (n := 3) (by decide +kernel) (Nat.le_of_ble_eq_true rfl) ?_
  intro p e s m args below meth c A ls Q B hW hE hS hl hQ
  have hx := B.1
  have hb := B.2.1
  have hl : lv_has ls 3 [(0, .int x0), (1, .ref p_o), (2, .ref h_o)] := hl
  unfold f_X5_wishOf at h
  refine lv_aload_n (pc := 0) hx hb (tb_at tk_X5_wishOf 0 rfl) rfl (lv_at hl 1 rfl) ?_
  refine lv_iload_n (pc := 1) hx hb (tb_at tk_X5_wishOf 1 rfl) rfl (lv_at hl 0 rfl) ?_
  refine k_calli (pc := 2) B (k_runVi (rest := []) (C := RX2) B (c_X2_knows l dC dI cI cZ cQ cW p_o p_weight_a p_nights_a p_wanted_a p_wantCount_a p_wantBits_a p_size p_law x0 N _ res h) E0_st (fun _ _ _ => trivial) q_c_X2_knows q_m_X5_26 q_i_X2_knows q_s_X2_knows q_n_X2 hd_X2_knows ⟨rfl, rfl⟩ ⟨Nat.le_of_ble_eq_true rfl, Nat.le_of_ble_eq_true rfl⟩ hW [0] rfl (by decide +kernel) (q0 := 0) (ci := 2) rfl rfl rfl hl.1 rfl (Nat.le_of_ble_eq_true rfl) (tb_at tk_X5_wishOf 2 rfl) ⟨Nat.zero_le _, Nat.zero_le _⟩) hW hS [0] rfl [p_o] rfl (fun _ => rfl) [some 0, none, none, none] (by decide +kernel) (fun _ => (w_X5_wishOf cI cZ cQ cW p_o p_weight_a p_nights_a p_wanted_a p_wantCount_a p_wantBits_a h_o h_has_a h_left_a h_bits_a p_size p_law h_bitCount h_given h_made h_gone h_law h_has p_wantBits)) (fun _ => rfl) (fun r2 u H locs h hW hS => ?_)
  have hW : PD (dC, dI) A (w_X5_wishOf cI cZ cQ cW p_o p_weight_a p_nights_a p_wanted_a p_wantCount_a p_wantBits_a h_o h_has_a h_left_a h_bits_a p_size p_law h_bitCount h_given h_made h_gone h_law h_has p_wantBits) H := hW
  refine lv_if_eq (pc := 5) (tgt := 28) hx hb (tb_at tk_X5_wishOf 3 rfl) (by decide) (fun cc => ?_) (fun cc => ?_)
  · have h := it_t cc h
    refine lv_iconst (pc := 28) (v := 0) hx hb (tb_at tk_X5_wishOf 15 rfl) (by decide) ?_
    exact hQ 0 () _ _ _ 29 rfl h hW hS (tb_at tk_X5_wishOf 16 rfl)
  · have h := it_f cc h
    refine lv_aload_n (pc := 8) hx hb (tb_at tk_X5_wishOf 4 rfl) rfl (lv_at hl 2 rfl) ?_
    refine k_get (pc := 9) (v := .ref h_has_a) (T := TX0) B inG0 hW 1 rfl rfl 0 (by decide) q_f_X5_20 rfl rfl (tb_at tk_X5_wishOf 5 rfl) ?_
    refine lv_iload_n (pc := 12) hx hb (tb_at tk_X5_wishOf 6 rfl) rfl (lv_at hl 0 rfl) ?_
    have ii := ivi_in (ck_l h)
    have h := ck_r h
    refine k_iald (pc := 13) B hW 2 0 rfl rfl ii (tb_at tk_X5_wishOf 7 rfl) ?_
    refine lv_bipush (pc := 14) (v := (-9)) hx hb (tb_at tk_X5_wishOf 8 rfl) (by decide) ?_
    refine lv_icmp_eq (pc := 16) (tgt := 28) hx hb (tb_at tk_X5_wishOf 9 rfl) (by decide) (fun cc => ?_) (fun cc => ?_)
    · have h := it_t cc h
      refine lv_iconst (pc := 28) (v := 0) hx hb (tb_at tk_X5_wishOf 15 rfl) (by decide) ?_
      exact hQ 0 () _ _ _ 29 rfl h hW hS (tb_at tk_X5_wishOf 16 rfl)
    · have h := it_f cc h
      refine lv_aload_n (pc := 19) hx hb (tb_at tk_X5_wishOf 10 rfl) rfl (lv_at hl 1 rfl) ?_
      refine k_get (pc := 20) (v := .ref p_wantBits_a) (T := TX2) B inG2 hW 0 rfl rfl 4 (by decide) q_f_X5_47 rfl rfl (tb_at tk_X5_wishOf 11 rfl) ?_
      refine lv_iload_n (pc := 23) hx hb (tb_at tk_X5_wishOf 12 rfl) rfl (lv_at hl 0 rfl) ?_
      have ii := ivi_in (ck_l h)
      have h := ck_r h
      refine k_iald (pc := 24) B hW 3 0 rfl rfl ii (tb_at tk_X5_wishOf 13 rfl) ?_
      refine lv_goto (pc := 25) (tgt := 29) hx hb (tb_at tk_X5_wishOf 14 rfl) (by decide) ?_
      exact hQ (p_wantBits (x0).toNatClampNeg) () _ _ _ 29 rfl h hW hS (tb_at tk_X5_wishOf 16 rfl)
def f_X5_bestFrom_l15 {ρ : Type} (x1 : Int32) (x2 : Int32) (x3 : Int32) (z_best : Nat → Nat → Int32) (k : Int32 → Option ρ) (N : Nat) : Nat → Int32 → Int32 → Option ρ
  | 0, _, _ => none
  | n15 + 1, y4_l15, y5_l15 => if 6 ≤ y5_l15 then (k y4_l15) else (f_X7_holds N x2 y5_l15 (fun r25 => if r25 = 0 then ((f_X5_bestFrom_l15 x1 x2 x3 z_best k N n15) y4_l15 (y5_l15 + 1)) else (ck (ivi (x1 + 1) 7) (ck (ivi (x3 &&& (((1 : Int32) <<< (y5_l15 &&& 31)) ^^^ (-1))) 64) ((f_X5_bestFrom_l15 x1 x2 x3 z_best k N n15) (if y4_l15 < ((1 : Int32) + (z_best (x1 + 1).toNatClampNeg (x3 &&& (((1 : Int32) <<< (y5_l15 &&& 31)) ^^^ (-1))).toNatClampNeg)) then ((1 : Int32) + (z_best (x1 + 1).toNatClampNeg (x3 &&& (((1 : Int32) <<< (y5_l15 &&& 31)) ^^^ (-1))).toNatClampNeg)) else y4_l15) (y5_l15 + 1))))))
def f_X5_bestFrom {ρ : Type} (N : Nat) (z_best : Nat → Nat → Int32) (x1 : Int32) (x2 : Int32) (x3 : Int32) (k : Int32 → Option ρ) : Option ρ := ck (ivi (x1 + 1) 7) (ck (ivi x3 64) (f_X5_bestFrom_l15 x1 x2 x3 z_best k N N (z_best (x1 + 1).toNatClampNeg (x3).toNatClampNeg) 0))
abbrev w_X5_bestFrom (cI cZ cQ cW : ClassId) (z_o : Nat) (z_best_a : Nat) (z_best_r : Nat → Nat) (z_hours : Int32) (z_best : Nat → Nat → Int32) : va_W := [(z_o, .inr (5, [.ref z_best_a, .int z_hours])), (z_best_a, .inl (cW, 7, .inr (.inr (.inr (.inr (fun i => if i < 7 then some (z_best_r i) else none)))))), (z_best_r 0, .inl (cI, 64, .inl (z_best 0))), (z_best_r 1, .inl (cI, 64, .inl (z_best 1))), (z_best_r 2, .inl (cI, 64, .inl (z_best 2))), (z_best_r 3, .inl (cI, 64, .inl (z_best 3))), (z_best_r 4, .inl (cI, 64, .inl (z_best 4))), (z_best_r 5, .inl (cI, 64, .inl (z_best 5))), (z_best_r 6, .inl (cI, 64, .inl (z_best 6)))]
abbrev rm_X5_bestFrom : Room := { frames := 1, cells := 0, slots := 0, locals := 21 }
set_option maxHeartbeats 4000000 in
set_option maxRecDepth 100000 in
theorem c_X5_bestFrom (l : Launch) (dC : Nat → ClassId) (dI : Nat → Nat → Nat) (cI cZ cQ cW : ClassId) (z_o : Nat) (z_best_a : Nat) (z_best_r : Nat → Nat) (z_hours : Int32) (z_best : Nat → Nat → Int32) (x1 : Int32) (x2 : Int32) (x3 : Int32) {ρ : Type} (N : Nat) (k : Int32 → Option ρ) (res : ρ) (h : f_X5_bestFrom N z_best x1 x2 x3 k = some res) : Ci l yX5_bestFrom (WS yX5_bestFrom cX5_bestFrom 6 (some .int)) rm_X5_bestFrom (dC, dI) (tysG cI cZ cQ cW) E0 [.ref z_o, .int x1, .int x2, .int x3] (w_X5_bestFrom cI cZ cQ cW z_o z_best_a z_best_r z_hours z_best) (fun (_ : Unit) => (w_X5_bestFrom cI cZ cQ cW z_o z_best_a z_best_r z_hours z_best)) (fun r _ => k r = some res) := by
  refine Ci.of (cc := cX5_bestFrom) (n := 6) (by decide +kernel) (Nat.le_of_ble_eq_true rfl) ?_
  intro p e s m args below meth c A ls Q B hW hE hS hl hQ
  have hx := B.1
  have hb := B.2.1
  have hl : lv_has ls 6 [(0, .ref z_o), (1, .int x1), (2, .int x2), (3, .int x3)] := hl
  unfold f_X5_bestFrom at h
  refine lv_aload_n (pc := 0) hx hb (tb_at tk_X5_bestFrom 0 rfl) rfl (lv_at hl 0 rfl) ?_
  refine k_get (pc := 1) (v := .ref z_best_a) (T := TX5) B inG5 hW 0 rfl rfl 0 (by decide) q_f_X5_13 rfl rfl (tb_at tk_X5_bestFrom 1 rfl) ?_
  refine lv_iload_n (pc := 4) hx hb (tb_at tk_X5_bestFrom 2 rfl) rfl (lv_at hl 1 rfl) ?_
  refine lv_iconst (pc := 5) (v := 1) hx hb (tb_at tk_X5_bestFrom 3 rfl) (by decide) ?_
  refine lv_iadd (pc := 6) hx hb (tb_at tk_X5_bestFrom 4 rfl) ?_
  have ir7 := ivi_in (ck_l h)
  have h := ck_r h
  refine k_aldr (pc := 7) (r := z_best_r) B hW 1 3 rfl rfl ir7 (tb_at tk_X5_bestFrom 5 rfl) ?_
  refine lv_iload_n (pc := 8) hx hb (tb_at tk_X5_bestFrom 6 rfl) rfl (lv_at hl 3 rfl) ?_
  have ii := ivi_in (ck_l h)
  have h := ck_r h
  refine k_rald (pc := 9) (x := x1 + 1) (r := z_best_r) (g := z_best) B hW 2 0 (row7 rfl rfl rfl rfl rfl rfl rfl) rfl ir7 ii (tb_at tk_X5_bestFrom 7 rfl) ?_
  refine lv_istore (pc := 10) (lv' := [(4, .int (z_best (x1 + 1).toNatClampNeg (x3).toNatClampNeg)), (0, .ref z_o), (1, .int x1), (2, .int x2), (3, .int x3)]) hx hb (tb_at tk_X5_bestFrom 8 rfl) hl (by decide) rfl (fun ls hl => ?_)
  refine lv_iconst (pc := 12) (v := 0) hx hb (tb_at tk_X5_bestFrom 9 rfl) (by decide) ?_
  refine lv_istore (pc := 13) (lv' := [(5, .int 0), (4, .int (z_best (x1 + 1).toNatClampNeg (x3).toNatClampNeg)), (0, .ref z_o), (1, .int x1), (2, .int x2), (3, .int x3)]) hx hb (tb_at tk_X5_bestFrom 10 rfl) hl (by decide) rfl (fun ls hl => ?_)
  have w15 : ∀ (n : Nat), ∀ (y4_l15 : Int32) (y5_l15 : Int32) (H : Heap) (locs : List Loc) (ls : Array Slot), f_X5_bestFrom_l15 x1 x2 x3 z_best k N n y4_l15 y5_l15 = some res → PD (dC, dI) A (w_X5_bestFrom cI cZ cQ cW z_o z_best_a z_best_r z_hours z_best) H → va_S A s.heap H locs → lv_has ls 6 [(0, .ref z_o), (1, .int x1), (2, .int x2), (3, .int x3), (4, .int y4_l15), (5, .int y5_l15)] → W p l e rm_X5_bestFrom s m args below meth c H locs 0 0 Q (F0 m 15 ls []) := by
    intro n
    induction n with
    | zero => intro y4_l15 y5_l15 H locs ls h; exact no_n h
    | succ n15 ih15 =>
      intro y4_l15 y5_l15 H locs ls h hW hS hl
      rw [f_X5_bestFrom_l15] at h
      refine lv_iload (pc := 15) hx hb (tb_at tk_X5_bestFrom 11 rfl) (lv_at hl 5 rfl) ?_
      refine lv_bipush (pc := 17) (v := 6) hx hb (tb_at tk_X5_bestFrom 12 rfl) (by decide) ?_
      refine lv_icmp_ge (pc := 19) (tgt := 63) hx hb (tb_at tk_X5_bestFrom 13 rfl) (by decide) (fun cc => ?_) (fun cc => ?_)
      · have h := it_t cc h
        refine lv_iload (pc := 63) hx hb (tb_at tk_X5_bestFrom 39 rfl) (lv_at hl 4 rfl) ?_
        exact hQ y4_l15 () _ _ _ 65 rfl h hW hS (tb_at tk_X5_bestFrom 40 rfl)
      · have h := it_f cc h
        refine lv_iload_n (pc := 22) hx hb (tb_at tk_X5_bestFrom 14 rfl) rfl (lv_at hl 2 rfl) ?_
        refine lv_iload (pc := 23) hx hb (tb_at tk_X5_bestFrom 15 rfl) (lv_at hl 5 rfl) ?_
        refine k_call0 (pc := 25) B (k_runNi (rest := []) (host := RX7) B (c_X7_holds l dC dI cI cZ cQ cW   x2 y5_l15 N _ res h) E0_st (fun _ _ _ => trivial) q_c_X7_holds q_h_X5_50 q_t_X7_holds q_n_X7 hd_X7_holds ⟨rfl, rfl⟩ ⟨Nat.le_of_ble_eq_true rfl, Nat.le_of_ble_eq_true rfl⟩ hW [] rfl (by decide +kernel) rfl hl.1 rfl (Nat.le_of_ble_eq_true rfl) (tb_at tk_X5_bestFrom 16 rfl) ⟨Nat.zero_le _, Nat.zero_le _⟩) hW hS (fun r25 u H locs h hW hS => ?_)
        refine lv_if_eq (pc := 28) (tgt := 57) hx hb (tb_at tk_X5_bestFrom 17 rfl) (by decide) (fun cc => ?_) (fun cc => ?_)
        · have h := it_t cc h
          refine lv_iinc (pc := 57) (v := y5_l15 + 1) (lv' := [(5, .int (y5_l15 + 1)), (0, .ref z_o), (1, .int x1), (2, .int x2), (3, .int x3), (4, .int y4_l15)]) hx hb (tb_at tk_X5_bestFrom 37 rfl) hl (k := 5) rfl rfl (by decide) rfl (fun ls hl => ?_)
          refine lv_goto (pc := 60) (tgt := 15) hx hb (tb_at tk_X5_bestFrom 38 rfl) (by decide) ?_
          exact ih15 y4_l15 (y5_l15 + 1) _ _ _ h hW hS (lv_sub hl [1, 2, 3, 4, 5, 0] rfl)
        · have h := it_f cc h
          refine lv_iload (pc := 31) hx hb (tb_at tk_X5_bestFrom 18 rfl) (lv_at hl 4 rfl) ?_
          refine lv_iconst (pc := 33) (v := 1) hx hb (tb_at tk_X5_bestFrom 19 rfl) (by decide) ?_
          refine lv_aload_n (pc := 34) hx hb (tb_at tk_X5_bestFrom 20 rfl) rfl (lv_at hl 0 rfl) ?_
          refine k_get (pc := 35) (v := .ref z_best_a) (T := TX5) B inG5 hW 0 rfl rfl 0 (by decide) q_f_X5_13 rfl rfl (tb_at tk_X5_bestFrom 21 rfl) ?_
          refine lv_iload_n (pc := 38) hx hb (tb_at tk_X5_bestFrom 22 rfl) rfl (lv_at hl 1 rfl) ?_
          refine lv_iconst (pc := 39) (v := 1) hx hb (tb_at tk_X5_bestFrom 23 rfl) (by decide) ?_
          refine lv_iadd (pc := 40) hx hb (tb_at tk_X5_bestFrom 24 rfl) ?_
          have ir41 := ivi_in (ck_l h)
          have h := ck_r h
          refine k_aldr (pc := 41) (r := z_best_r) B hW 1 3 rfl rfl ir41 (tb_at tk_X5_bestFrom 25 rfl) ?_
          refine lv_iload_n (pc := 42) hx hb (tb_at tk_X5_bestFrom 26 rfl) rfl (lv_at hl 3 rfl) ?_
          refine lv_iconst (pc := 43) (v := 1) hx hb (tb_at tk_X5_bestFrom 27 rfl) (by decide) ?_
          refine lv_iload (pc := 44) hx hb (tb_at tk_X5_bestFrom 28 rfl) (lv_at hl 5 rfl) ?_
          refine lv_ishl (pc := 46) hx hb (tb_at tk_X5_bestFrom 29 rfl) ?_
          refine lv_iconst (pc := 47) (v := (-1)) hx hb (tb_at tk_X5_bestFrom 30 rfl) (by decide) ?_
          refine lv_ixor (pc := 48) hx hb (tb_at tk_X5_bestFrom 31 rfl) ?_
          refine lv_iand (pc := 49) hx hb (tb_at tk_X5_bestFrom 32 rfl) ?_
          have ii := ivi_in (ck_l h)
          have h := ck_r h
          refine k_rald (pc := 50) (x := x1 + 1) (r := z_best_r) (g := z_best) B hW 2 0 (row7 rfl rfl rfl rfl rfl rfl rfl) rfl ir41 ii (tb_at tk_X5_bestFrom 33 rfl) ?_
          refine lv_iadd (pc := 51) hx hb (tb_at tk_X5_bestFrom 34 rfl) ?_
          refine va_mmax (pc := 52) hx hb (B.2.2.2.1.trans hl.1.symm) B.2.2.2.2.1 (B.2.2.2.2.2.1 _ q_m_X5_53) (B.2.2.2.2.2.1 _ q_t_J9_max_7cf53) (B.2.2.2.2.2.1 _ q_n_J9) (B.2.2.2.2.2.1 _ q_c_J9_max_7cf53) (Nat.le_of_ble_eq_true rfl) (Nat.le_of_ble_eq_true rfl) (Nat.zero_le _) (Nat.zero_le _) (tb_at tk_X5_bestFrom 35 rfl) ?_
          refine lv_istore (pc := 55) (lv' := [(4, .int (if y4_l15 < ((1 : Int32) + (z_best (x1 + 1).toNatClampNeg (x3 &&& (((1 : Int32) <<< (y5_l15 &&& 31)) ^^^ (-1))).toNatClampNeg)) then ((1 : Int32) + (z_best (x1 + 1).toNatClampNeg (x3 &&& (((1 : Int32) <<< (y5_l15 &&& 31)) ^^^ (-1))).toNatClampNeg)) else y4_l15)), (0, .ref z_o), (1, .int x1), (2, .int x2), (3, .int x3), (5, .int y5_l15)]) hx hb (tb_at tk_X5_bestFrom 36 rfl) hl (by decide) rfl (fun ls hl => ?_)
          refine lv_iinc (pc := 57) (v := y5_l15 + 1) (lv' := [(5, .int (y5_l15 + 1)), (4, .int (if y4_l15 < ((1 : Int32) + (z_best (x1 + 1).toNatClampNeg (x3 &&& (((1 : Int32) <<< (y5_l15 &&& 31)) ^^^ (-1))).toNatClampNeg)) then ((1 : Int32) + (z_best (x1 + 1).toNatClampNeg (x3 &&& (((1 : Int32) <<< (y5_l15 &&& 31)) ^^^ (-1))).toNatClampNeg)) else y4_l15)), (0, .ref z_o), (1, .int x1), (2, .int x2), (3, .int x3)]) hx hb (tb_at tk_X5_bestFrom 37 rfl) hl (k := 5) rfl rfl (by decide) rfl (fun ls hl => ?_)
          refine lv_goto (pc := 60) (tgt := 15) hx hb (tb_at tk_X5_bestFrom 38 rfl) (by decide) ?_
          exact ih15 (if y4_l15 < ((1 : Int32) + (z_best (x1 + 1).toNatClampNeg (x3 &&& (((1 : Int32) <<< (y5_l15 &&& 31)) ^^^ (-1))).toNatClampNeg)) then ((1 : Int32) + (z_best (x1 + 1).toNatClampNeg (x3 &&& (((1 : Int32) <<< (y5_l15 &&& 31)) ^^^ (-1))).toNatClampNeg)) else y4_l15) (y5_l15 + 1) _ _ _ h hW hS (lv_sub hl [2, 3, 4, 5, 1, 0] rfl)
  exact w15 N (z_best (x1 + 1).toNatClampNeg (x3).toNatClampNeg) 0 _ _ _ h hW hS (lv_sub hl [2, 3, 4, 5, 1, 0] rfl)
def f_X5_weigh_e112 {ρ : Type} (y3_l51 : Int32) (kb51 : Int32 → (Nat → Nat → Int32) → Option ρ) (z_best_e112 : Nat → Nat → Int32) : Option ρ := kb51 (y3_l51 + (-1)) z_best_e112
def f_X5_weigh_l66 {ρ : Type} (z_hours_e49 : Int32) (y3_l51 : Int32) (r58 : Int32) (k112 : (Nat → Nat → Int32) → Option ρ) (N : Nat) : Nat → Int32 → (Nat → Nat → Int32) → Option ρ
  | 0, _, _ => none
  | n66 + 1, y5_l66, z_best_l66 => if 64 ≤ y5_l66 then (k112 z_best_l66) else (f_X7_isWithin N y5_l66 z_hours_e49 (fun r79 => if r79 = 0 then ((f_X5_weigh_l66 z_hours_e49 y3_l51 r58 k112 N n66) (y5_l66 + 1) z_best_l66) else (ck (ivi y3_l51 7) (f_X5_bestFrom N z_best_l66 y3_l51 (r58 &&& y5_l66) y5_l66 (fun r102 => ck (ivi y5_l66 64) ((f_X5_weigh_l66 z_hours_e49 y3_l51 r58 k112 N n66) (y5_l66 + 1) (upg z_best_l66 (y3_l51).toNatClampNeg (upd (z_best_l66 (y3_l51).toNatClampNeg) (y5_l66).toNatClampNeg r102))))))))
def f_X5_weigh_l51 {ρ : Type} (h_has : Nat → Int32) (p_size : Int32) (p_wantBits : Nat → Int32) (z_hours_e49 : Int32) (k : Int32 → (Nat → Nat → Int32) → Option ρ) (N : Nat) : Nat → Int32 → (Nat → Nat → Int32) → Option ρ
  | 0, _, _ => none
  | n51 + 1, y3_l51, z_best_l51 => if y3_l51 < 0 then (k z_hours_e49 z_best_l51) else (f_X5_wishOf N p_size h_has p_wantBits y3_l51 (fun r58 => f_X5_weigh_l66 z_hours_e49 y3_l51 r58 (fun z_best_e112 => f_X5_weigh_e112 y3_l51 (f_X5_weigh_l51 h_has p_size p_wantBits z_hours_e49 k N n51) z_best_e112) N N 0 z_best_l51))
def f_X5_weigh_e49 {ρ : Type} (z_best : Nat → Nat → Int32) (h_has : Nat → Int32) (p_size : Int32) (p_wantBits : Nat → Int32) (k : Int32 → (Nat → Nat → Int32) → Option ρ) (N : Nat) (z_hours_e49 : Int32) : Option ρ := f_X5_weigh_l51 h_has p_size p_wantBits z_hours_e49 k N N 5 z_best
def f_X5_weigh_l7 {ρ : Type} (h_has : Nat → Int32) (p_size : Int32) (k49 : Int32 → Option ρ) (N : Nat) : Nat → Int32 → Int32 → Option ρ
  | 0, _, _ => none
  | n7 + 1, y3_l7, z_hours_l7 => if 6 ≤ y3_l7 then (k49 z_hours_l7) else (ck (ivi y3_l7 6) (f_X2_knows N p_size (h_has (y3_l7).toNatClampNeg) (fun r20 => if r20 = 0 then ((f_X5_weigh_l7 h_has p_size k49 N n7) (y3_l7 + 1) z_hours_l7) else (ck (ivi y3_l7 6) ((f_X5_weigh_l7 h_has p_size k49 N n7) (y3_l7 + 1) (z_hours_l7 ||| ((1 : Int32) <<< ((h_has (y3_l7).toNatClampNeg) &&& 31))))))))
def f_X5_weigh {ρ : Type} (N : Nat) (h_has : Nat → Int32) (p_size : Int32) (p_wantBits : Nat → Int32) (z_best : Nat → Nat → Int32) (k : Int32 → (Nat → Nat → Int32) → Option ρ) : Option ρ := f_X5_weigh_l7 h_has p_size (fun z_hours_e49 => f_X5_weigh_e49 z_best h_has p_size p_wantBits k N z_hours_e49) N N 0 0
abbrev w_X5_weigh (cI cZ cQ cW : ClassId) (z_o : Nat) (z_best_a : Nat) (h_o : Nat) (h_has_a : Nat) (h_left_a : Nat) (h_bits_a : Nat) (p_o : Nat) (p_weight_a : Nat) (p_nights_a : Nat) (p_wanted_a : Nat) (p_wantCount_a : Nat) (p_wantBits_a : Nat) (z_best_r : Nat → Nat) (z_hours : Int32) (h_bitCount : Int32) (h_given : Int32) (h_made : Int32) (h_gone : Int32) (h_law : Int32) (h_has : Nat → Int32) (p_size : Int32) (p_law : Int32) (p_wantBits : Nat → Int32) (z_best : Nat → Nat → Int32) : va_W := [(z_o, .inr (5, [.ref z_best_a, .int z_hours])), (h_o, .inr (0, [.ref h_has_a, .ref h_left_a, .ref h_bits_a, .int h_bitCount, .int h_given, .int h_made, .int h_gone, .int h_law])), (h_has_a, .inl (cI, 6, .inl h_has)), (p_o, .inr (2, [.ref p_weight_a, .ref p_nights_a, .ref p_wanted_a, .ref p_wantCount_a, .ref p_wantBits_a, .int p_size, .int p_law])), (p_wantBits_a, .inl (cI, 6, .inl p_wantBits)), (z_best_a, .inl (cW, 7, .inr (.inr (.inr (.inr (fun i => if i < 7 then some (z_best_r i) else none)))))), (z_best_r 0, .inl (cI, 64, .inl (z_best 0))), (z_best_r 1, .inl (cI, 64, .inl (z_best 1))), (z_best_r 2, .inl (cI, 64, .inl (z_best 2))), (z_best_r 3, .inl (cI, 64, .inl (z_best 3))), (z_best_r 4, .inl (cI, 64, .inl (z_best 4))), (z_best_r 5, .inl (cI, 64, .inl (z_best 5))), (z_best_r 6, .inl (cI, 64, .inl (z_best 6)))]
abbrev rm_X5_weigh : Room := { frames := 2, cells := 0, slots := 0, locals := 46 }
set_option maxHeartbeats 4000000 in
set_option maxRecDepth 100000 in
theorem c_X5_weigh (l : Launch) (dC : Nat → ClassId) (dI : Nat → Nat → Nat) (cI cZ cQ cW : ClassId) (z_o : Nat) (z_best_a : Nat) (h_o : Nat) (h_has_a : Nat) (h_left_a : Nat) (h_bits_a : Nat) (p_o : Nat) (p_weight_a : Nat) (p_nights_a : Nat) (p_wanted_a : Nat) (p_wantCount_a : Nat) (p_wantBits_a : Nat) (z_best_r : Nat → Nat) (z_hours : Int32) (h_bitCount : Int32) (h_given : Int32) (h_made : Int32) (h_gone : Int32) (h_law : Int32) (h_has : Nat → Int32) (p_size : Int32) (p_law : Int32) (p_wantBits : Nat → Int32) (z_best : Nat → Nat → Int32) {ρ : Type} (N : Nat) (k : Int32 → (Nat → Nat → Int32) → Option ρ) (res : ρ) (h : f_X5_weigh N h_has p_size p_wantBits z_best k = some res) : Cv l yX5_weigh (WS yX5_weigh cX5_weigh 6 none) rm_X5_weigh (dC, dI) (tysG cI cZ cQ cW) E0 [.ref z_o, .ref p_o, .ref h_o] (w_X5_weigh cI cZ cQ cW z_o z_best_a h_o h_has_a h_left_a h_bits_a p_o p_weight_a p_nights_a p_wanted_a p_wantCount_a p_wantBits_a z_best_r z_hours h_bitCount h_given h_made h_gone h_law h_has p_size p_law p_wantBits z_best) (fun (u : Int32 × (Nat → Nat → Int32)) => (w_X5_weigh cI cZ cQ cW z_o z_best_a h_o h_has_a h_left_a h_bits_a p_o p_weight_a p_nights_a p_wanted_a p_wantCount_a p_wantBits_a z_best_r u.1 h_bitCount h_given h_made h_gone h_law h_has p_size p_law p_wantBits u.2)) (fun u => k u.1 u.2 = some res) := by
  refine Cv.of (cc := cX5_weigh) (n := 6) (by decide +kernel) (Nat.le_of_ble_eq_true rfl) ?_
  intro p e s m args below meth c A ls Q B hW hE hS hl hQ
  have hx := B.1
  have hb := B.2.1
  have hl : lv_has ls 6 [(0, .ref z_o), (1, .ref p_o), (2, .ref h_o)] := hl
  unfold f_X5_weigh at h
  refine lv_aload_n (pc := 0) hx hb (tb_at tk_X5_weigh 0 rfl) rfl (lv_at hl 0 rfl) ?_
  refine lv_iconst (pc := 1) (v := 0) hx hb (tb_at tk_X5_weigh 1 rfl) (by decide) ?_
  refine k_put (pc := 2) (T := TX5) B inG5 tyX5 tyX5_ok nmX5 hW hS 0 rfl rfl 1 (by decide) q_f_X5_16 rfl rfl rfl rfl (Nat.le_of_ble_eq_true rfl) (tb_at tk_X5_weigh 2 rfl) (w_X5_weigh cI cZ cQ cW z_o z_best_a h_o h_has_a h_left_a h_bits_a p_o p_weight_a p_nights_a p_wanted_a p_wantCount_a p_wantBits_a z_best_r 0 h_bitCount h_given h_made h_gone h_law h_has p_size p_law p_wantBits z_best) rfl (fun H locs hW hS => ?_)
  refine lv_iconst (pc := 5) (v := 0) hx hb (tb_at tk_X5_weigh 3 rfl) (by decide) ?_
  refine lv_istore_n (pc := 6) (lv' := [(3, .int 0), (0, .ref z_o), (1, .ref p_o), (2, .ref h_o)]) hx hb (tb_at tk_X5_weigh 4 rfl) rfl hl (by decide) rfl (fun ls hl => ?_)
  have w49 : ∀ (z_hours_e49 : Int32) (H : Heap) (locs : List Loc) (ls : Array Slot), f_X5_weigh_e49 z_best h_has p_size p_wantBits k N z_hours_e49 = some res → PD (dC, dI) A (w_X5_weigh cI cZ cQ cW z_o z_best_a h_o h_has_a h_left_a h_bits_a p_o p_weight_a p_nights_a p_wanted_a p_wantCount_a p_wantBits_a z_best_r z_hours_e49 h_bitCount h_given h_made h_gone h_law h_has p_size p_law p_wantBits z_best) H → va_S A s.heap H locs → lv_has ls 6 [(0, .ref z_o), (1, .ref p_o), (2, .ref h_o)] → W p l e rm_X5_weigh s m args below meth c H locs 0 0 Q (F0 m 49 ls []) := by
    intro z_hours_e49 H locs ls h hW hS hl
    unfold f_X5_weigh_e49 at h
    refine lv_iconst (pc := 49) (v := 5) hx hb (tb_at tk_X5_weigh 28 rfl) (by decide) ?_
    refine lv_istore_n (pc := 50) (lv' := [(3, .int 5), (0, .ref z_o), (1, .ref p_o), (2, .ref h_o)]) hx hb (tb_at tk_X5_weigh 29 rfl) rfl hl (by decide) rfl (fun ls hl => ?_)
    have w51 : ∀ (n : Nat), ∀ (y3_l51 : Int32) (z_best_l51 : Nat → Nat → Int32) (H : Heap) (locs : List Loc) (ls : Array Slot), f_X5_weigh_l51 h_has p_size p_wantBits z_hours_e49 k N n y3_l51 z_best_l51 = some res → PD (dC, dI) A (w_X5_weigh cI cZ cQ cW z_o z_best_a h_o h_has_a h_left_a h_bits_a p_o p_weight_a p_nights_a p_wanted_a p_wantCount_a p_wantBits_a z_best_r z_hours_e49 h_bitCount h_given h_made h_gone h_law h_has p_size p_law p_wantBits z_best_l51) H → va_S A s.heap H locs → lv_has ls 6 [(0, .ref z_o), (1, .ref p_o), (2, .ref h_o), (3, .int y3_l51)] → W p l e rm_X5_weigh s m args below meth c H locs 0 0 Q (F0 m 51 ls []) := by
      intro n
      induction n with
      | zero => intro y3_l51 z_best_l51 H locs ls h; exact no_n h
      | succ n51 ih51 =>
        intro y3_l51 z_best_l51 H locs ls h hW hS hl
        rw [f_X5_weigh_l51] at h
        refine lv_iload_n (pc := 51) hx hb (tb_at tk_X5_weigh 30 rfl) rfl (lv_at hl 3 rfl) ?_
        refine lv_if_lt (pc := 52) (tgt := 118) hx hb (tb_at tk_X5_weigh 31 rfl) (by decide) (fun cc => ?_) (fun cc => ?_)
        · have h := it_t cc h
          exact hQ (z_hours_e49, z_best_l51) _ _ _ 118 h hW hS (tb_at tk_X5_weigh 64 rfl)
        · have h := it_f cc h
          refine lv_iload_n (pc := 55) hx hb (tb_at tk_X5_weigh 32 rfl) rfl (lv_at hl 3 rfl) ?_
          refine lv_aload_n (pc := 56) hx hb (tb_at tk_X5_weigh 33 rfl) rfl (lv_at hl 1 rfl) ?_
          refine lv_aload_n (pc := 57) hx hb (tb_at tk_X5_weigh 34 rfl) rfl (lv_at hl 2 rfl) ?_
          refine k_calli (pc := 58) B (k_runSi (rest := []) (host := "") B (c_X5_wishOf l dC dI cI cZ cQ cW p_o p_weight_a p_nights_a p_wanted_a p_wantCount_a p_wantBits_a h_o h_has_a h_left_a h_bits_a p_size p_law h_bitCount h_given h_made h_gone h_law h_has p_wantBits y3_l51 N _ res h) E0_st (fun _ _ _ => trivial) q_c_X5_wishOf q_m_X5_32 q_t_X5_wishOf q_n_X5 hd_X5_wishOf ⟨rfl, rfl⟩ ⟨Nat.le_of_ble_eq_true rfl, Nat.le_of_ble_eq_true rfl⟩ hW [3, 1, 2, 4] rfl (by decide +kernel) rfl hl.1 rfl (Nat.le_of_ble_eq_true rfl) (tb_at tk_X5_weigh 35 rfl) ⟨Nat.zero_le _, Nat.zero_le _⟩) hW hS [3, 1, 2, 4] rfl [p_o, h_o, h_has_a, p_wantBits_a] rfl (fun _ => rfl) [none, some 1, some 2, some 0, some 3, none, none, none, none, none, none, none, none] (by decide +kernel) (fun _ => (w_X5_weigh cI cZ cQ cW z_o z_best_a h_o h_has_a h_left_a h_bits_a p_o p_weight_a p_nights_a p_wanted_a p_wantCount_a p_wantBits_a z_best_r z_hours_e49 h_bitCount h_given h_made h_gone h_law h_has p_size p_law p_wantBits z_best_l51)) (fun _ => rfl) (fun r58 u H locs h hW hS => ?_)
          have hW : PD (dC, dI) A (w_X5_weigh cI cZ cQ cW z_o z_best_a h_o h_has_a h_left_a h_bits_a p_o p_weight_a p_nights_a p_wanted_a p_wantCount_a p_wantBits_a z_best_r z_hours_e49 h_bitCount h_given h_made h_gone h_law h_has p_size p_law p_wantBits z_best_l51) H := hW
          refine lv_istore (pc := 61) (lv' := [(4, .int r58), (0, .ref z_o), (1, .ref p_o), (2, .ref h_o), (3, .int y3_l51)]) hx hb (tb_at tk_X5_weigh 36 rfl) hl (by decide) rfl (fun ls hl => ?_)
          refine lv_iconst (pc := 63) (v := 0) hx hb (tb_at tk_X5_weigh 37 rfl) (by decide) ?_
          refine lv_istore (pc := 64) (lv' := [(5, .int 0), (4, .int r58), (0, .ref z_o), (1, .ref p_o), (2, .ref h_o), (3, .int y3_l51)]) hx hb (tb_at tk_X5_weigh 38 rfl) hl (by decide) rfl (fun ls hl => ?_)
          have w112 : ∀ (z_best_e112 : Nat → Nat → Int32) (H : Heap) (locs : List Loc) (ls : Array Slot), f_X5_weigh_e112 y3_l51 (f_X5_weigh_l51 h_has p_size p_wantBits z_hours_e49 k N n51) z_best_e112 = some res → PD (dC, dI) A (w_X5_weigh cI cZ cQ cW z_o z_best_a h_o h_has_a h_left_a h_bits_a p_o p_weight_a p_nights_a p_wanted_a p_wantCount_a p_wantBits_a z_best_r z_hours_e49 h_bitCount h_given h_made h_gone h_law h_has p_size p_law p_wantBits z_best_e112) H → va_S A s.heap H locs → lv_has ls 6 [(0, .ref z_o), (1, .ref p_o), (2, .ref h_o), (3, .int y3_l51)] → W p l e rm_X5_weigh s m args below meth c H locs 0 0 Q (F0 m 112 ls []) := by
            intro z_best_e112 H locs ls h hW hS hl
            unfold f_X5_weigh_e112 at h
            refine lv_iinc (pc := 112) (v := y3_l51 + (-1)) (lv' := [(3, .int (y3_l51 + (-1))), (0, .ref z_o), (1, .ref p_o), (2, .ref h_o)]) hx hb (tb_at tk_X5_weigh 62 rfl) hl (k := 3) rfl rfl (by decide) rfl (fun ls hl => ?_)
            refine lv_goto (pc := 115) (tgt := 51) hx hb (tb_at tk_X5_weigh 63 rfl) (by decide) ?_
            exact ih51 (y3_l51 + (-1)) z_best_e112 _ _ _ h hW hS (lv_sub hl [1, 2, 3, 0] rfl)
          have w66 : ∀ (n : Nat), ∀ (y5_l66 : Int32) (z_best_l66 : Nat → Nat → Int32) (H : Heap) (locs : List Loc) (ls : Array Slot), f_X5_weigh_l66 z_hours_e49 y3_l51 r58 (fun z_best_e112 => f_X5_weigh_e112 y3_l51 (f_X5_weigh_l51 h_has p_size p_wantBits z_hours_e49 k N n51) z_best_e112) N n y5_l66 z_best_l66 = some res → PD (dC, dI) A (w_X5_weigh cI cZ cQ cW z_o z_best_a h_o h_has_a h_left_a h_bits_a p_o p_weight_a p_nights_a p_wanted_a p_wantCount_a p_wantBits_a z_best_r z_hours_e49 h_bitCount h_given h_made h_gone h_law h_has p_size p_law p_wantBits z_best_l66) H → va_S A s.heap H locs → lv_has ls 6 [(0, .ref z_o), (1, .ref p_o), (2, .ref h_o), (3, .int y3_l51), (4, .int r58), (5, .int y5_l66)] → W p l e rm_X5_weigh s m args below meth c H locs 0 0 Q (F0 m 66 ls []) := by
            intro n
            induction n with
            | zero => intro y5_l66 z_best_l66 H locs ls h; exact no_n h
            | succ n66 ih66 =>
              intro y5_l66 z_best_l66 H locs ls h hW hS hl
              rw [f_X5_weigh_l66] at h
              refine lv_iload (pc := 66) hx hb (tb_at tk_X5_weigh 39 rfl) (lv_at hl 5 rfl) ?_
              refine lv_bipush (pc := 68) (v := 64) hx hb (tb_at tk_X5_weigh 40 rfl) (by decide) ?_
              refine lv_icmp_ge (pc := 70) (tgt := 112) hx hb (tb_at tk_X5_weigh 41 rfl) (by decide) (fun cc => ?_) (fun cc => ?_)
              · have h := it_t cc h
                exact w112 z_best_l66 _ _ _ h hW hS (lv_sub hl [0, 1, 2, 3] rfl)
              · have h := it_f cc h
                refine lv_iload (pc := 73) hx hb (tb_at tk_X5_weigh 42 rfl) (lv_at hl 5 rfl) ?_
                refine lv_aload_n (pc := 75) hx hb (tb_at tk_X5_weigh 43 rfl) rfl (lv_at hl 0 rfl) ?_
                refine k_get (pc := 76) (v := .int z_hours_e49) (T := TX5) B inG5 hW 0 rfl rfl 1 (by decide) q_f_X5_16 rfl rfl (tb_at tk_X5_weigh 44 rfl) ?_
                refine k_call0 (pc := 79) B (k_runNi (rest := []) (host := RX7) B (c_X7_isWithin l dC dI cI cZ cQ cW   y5_l66 z_hours_e49 N _ res h) E0_st (fun _ _ _ => trivial) q_c_X7_isWithin q_h_X5_36 q_t_X7_isWithin q_n_X7 hd_X7_isWithin ⟨rfl, rfl⟩ ⟨Nat.le_of_ble_eq_true rfl, Nat.le_of_ble_eq_true rfl⟩ hW [] rfl (by decide +kernel) rfl hl.1 rfl (Nat.le_of_ble_eq_true rfl) (tb_at tk_X5_weigh 45 rfl) ⟨Nat.zero_le _, Nat.zero_le _⟩) hW hS (fun r79 u H locs h hW hS => ?_)
                refine lv_if_eq (pc := 82) (tgt := 106) hx hb (tb_at tk_X5_weigh 46 rfl) (by decide) (fun cc => ?_) (fun cc => ?_)
                · have h := it_t cc h
                  refine lv_iinc (pc := 106) (v := y5_l66 + 1) (lv' := [(5, .int (y5_l66 + 1)), (0, .ref z_o), (1, .ref p_o), (2, .ref h_o), (3, .int y3_l51), (4, .int r58)]) hx hb (tb_at tk_X5_weigh 60 rfl) hl (k := 5) rfl rfl (by decide) rfl (fun ls hl => ?_)
                  refine lv_goto (pc := 109) (tgt := 66) hx hb (tb_at tk_X5_weigh 61 rfl) (by decide) ?_
                  exact ih66 (y5_l66 + 1) z_best_l66 _ _ _ h hW hS (lv_sub hl [1, 2, 3, 4, 5, 0] rfl)
                · have h := it_f cc h
                  refine lv_aload_n (pc := 85) hx hb (tb_at tk_X5_weigh 47 rfl) rfl (lv_at hl 0 rfl) ?_
                  refine k_get (pc := 86) (v := .ref z_best_a) (T := TX5) B inG5 hW 0 rfl rfl 0 (by decide) q_f_X5_13 rfl rfl (tb_at tk_X5_weigh 48 rfl) ?_
                  refine lv_iload_n (pc := 89) hx hb (tb_at tk_X5_weigh 49 rfl) rfl (lv_at hl 3 rfl) ?_
                  have ir90 := ivi_in (ck_l h)
                  have h := ck_r h
                  refine k_aldr (pc := 90) (r := z_best_r) B hW 5 3 rfl rfl ir90 (tb_at tk_X5_weigh 50 rfl) ?_
                  refine lv_iload (pc := 91) hx hb (tb_at tk_X5_weigh 51 rfl) (lv_at hl 5 rfl) ?_
                  refine lv_aload_n (pc := 93) hx hb (tb_at tk_X5_weigh 52 rfl) rfl (lv_at hl 0 rfl) ?_
                  refine lv_iload_n (pc := 94) hx hb (tb_at tk_X5_weigh 53 rfl) rfl (lv_at hl 3 rfl) ?_
                  refine lv_iload (pc := 95) hx hb (tb_at tk_X5_weigh 54 rfl) (lv_at hl 4 rfl) ?_
                  refine lv_iload (pc := 97) hx hb (tb_at tk_X5_weigh 55 rfl) (lv_at hl 5 rfl) ?_
                  refine lv_iand (pc := 99) hx hb (tb_at tk_X5_weigh 56 rfl) ?_
                  refine lv_iload (pc := 100) hx hb (tb_at tk_X5_weigh 57 rfl) (lv_at hl 5 rfl) ?_
                  refine k_calli (pc := 102) B (k_runVi (rest := [.int y5_l66, .ref (z_best_r (y3_l51).toNatClampNeg)]) (C := RX5) B (c_X5_bestFrom l dC dI cI cZ cQ cW z_o z_best_a z_best_r z_hours_e49 z_best_l66 y3_l51 (r58 &&& y5_l66) y5_l66 N _ res h) E0_st (fun _ _ _ => trivial) q_c_X5_bestFrom q_m_X5_40 q_i_X5_bestFrom q_s_X5_bestFrom q_n_X5 hd_X5_bestFrom ⟨rfl, rfl⟩ ⟨Nat.le_of_ble_eq_true rfl, Nat.le_of_ble_eq_true rfl⟩ hW [0, 5, 6, 7, 8, 9, 10, 11, 12] rfl (by decide +kernel) (q0 := 0) (ci := 5) rfl rfl rfl hl.1 rfl (Nat.le_of_ble_eq_true rfl) (tb_at tk_X5_weigh 58 rfl) ⟨Nat.zero_le _, Nat.zero_le _⟩) hW hS [0, 5, 6, 7, 8, 9, 10, 11, 12] rfl [z_o, z_best_a, z_best_r 0, z_best_r 1, z_best_r 2, z_best_r 3, z_best_r 4, z_best_r 5, z_best_r 6] rfl (fun _ => rfl) [some 0, none, none, none, none, some 1, some 2, some 3, some 4, some 5, some 6, some 7, some 8] (by decide +kernel) (fun _ => (w_X5_weigh cI cZ cQ cW z_o z_best_a h_o h_has_a h_left_a h_bits_a p_o p_weight_a p_nights_a p_wanted_a p_wantCount_a p_wantBits_a z_best_r z_hours_e49 h_bitCount h_given h_made h_gone h_law h_has p_size p_law p_wantBits z_best_l66)) (fun _ => rfl) (fun r102 u H locs h hW hS => ?_)
                  have hW : PD (dC, dI) A (w_X5_weigh cI cZ cQ cW z_o z_best_a h_o h_has_a h_left_a h_bits_a p_o p_weight_a p_nights_a p_wanted_a p_wantCount_a p_wantBits_a z_best_r z_hours_e49 h_bitCount h_given h_made h_gone h_law h_has p_size p_law p_wantBits z_best_l66) H := hW
                  have ii := ivi_in (ck_l h)
                  have h := ck_r h
                  refine k_rast (pc := 105) (x := y3_l51) (r := z_best_r) (g := z_best_l66) B hW hS 6 0 (row7 rfl rfl rfl rfl rfl rfl rfl) rfl ir90 ii (tb_at tk_X5_weigh 59 rfl) (fun g9 => (w_X5_weigh cI cZ cQ cW z_o z_best_a h_o h_has_a h_left_a h_bits_a p_o p_weight_a p_nights_a p_wanted_a p_wantCount_a p_wantBits_a z_best_r z_hours_e49 h_bitCount h_given h_made h_gone h_law h_has p_size p_law p_wantBits g9)) (row7 (fun _ => rfl) (fun _ => rfl) (fun _ => rfl) (fun _ => rfl) (fun _ => rfl) (fun _ => rfl) (fun _ => rfl)) (fun H locs hW hS => ?_)
                  have hW : PD (dC, dI) A (w_X5_weigh cI cZ cQ cW z_o z_best_a h_o h_has_a h_left_a h_bits_a p_o p_weight_a p_nights_a p_wanted_a p_wantCount_a p_wantBits_a z_best_r z_hours_e49 h_bitCount h_given h_made h_gone h_law h_has p_size p_law p_wantBits (upg z_best_l66 (y3_l51).toNatClampNeg (upd (z_best_l66 (y3_l51).toNatClampNeg) (y5_l66).toNatClampNeg r102))) H := hW
                  refine lv_iinc (pc := 106) (v := y5_l66 + 1) (lv' := [(5, .int (y5_l66 + 1)), (0, .ref z_o), (1, .ref p_o), (2, .ref h_o), (3, .int y3_l51), (4, .int r58)]) hx hb (tb_at tk_X5_weigh 60 rfl) hl (k := 5) rfl rfl (by decide) rfl (fun ls hl => ?_)
                  refine lv_goto (pc := 109) (tgt := 66) hx hb (tb_at tk_X5_weigh 61 rfl) (by decide) ?_
                  exact ih66 (y5_l66 + 1) (upg z_best_l66 (y3_l51).toNatClampNeg (upd (z_best_l66 (y3_l51).toNatClampNeg) (y5_l66).toNatClampNeg r102)) _ _ _ h hW hS (lv_sub hl [1, 2, 3, 4, 5, 0] rfl)
          exact w66 N 0 z_best_l51 _ _ _ h hW hS (lv_sub hl [2, 3, 4, 5, 1, 0] rfl)
    exact w51 N 5 z_best _ _ _ h hW hS (lv_sub hl [1, 2, 3, 0] rfl)
  have w7 : ∀ (n : Nat), ∀ (y3_l7 : Int32) (z_hours_l7 : Int32) (H : Heap) (locs : List Loc) (ls : Array Slot), f_X5_weigh_l7 h_has p_size (fun z_hours_e49 => f_X5_weigh_e49 z_best h_has p_size p_wantBits k N z_hours_e49) N n y3_l7 z_hours_l7 = some res → PD (dC, dI) A (w_X5_weigh cI cZ cQ cW z_o z_best_a h_o h_has_a h_left_a h_bits_a p_o p_weight_a p_nights_a p_wanted_a p_wantCount_a p_wantBits_a z_best_r z_hours_l7 h_bitCount h_given h_made h_gone h_law h_has p_size p_law p_wantBits z_best) H → va_S A s.heap H locs → lv_has ls 6 [(0, .ref z_o), (1, .ref p_o), (2, .ref h_o), (3, .int y3_l7)] → W p l e rm_X5_weigh s m args below meth c H locs 0 0 Q (F0 m 7 ls []) := by
    intro n
    induction n with
    | zero => intro y3_l7 z_hours_l7 H locs ls h; exact no_n h
    | succ n7 ih7 =>
      intro y3_l7 z_hours_l7 H locs ls h hW hS hl
      rw [f_X5_weigh_l7] at h
      refine lv_iload_n (pc := 7) hx hb (tb_at tk_X5_weigh 5 rfl) rfl (lv_at hl 3 rfl) ?_
      refine lv_bipush (pc := 8) (v := 6) hx hb (tb_at tk_X5_weigh 6 rfl) (by decide) ?_
      refine lv_icmp_ge (pc := 10) (tgt := 49) hx hb (tb_at tk_X5_weigh 7 rfl) (by decide) (fun cc => ?_) (fun cc => ?_)
      · have h := it_t cc h
        exact w49 z_hours_l7 _ _ _ h hW hS (lv_sub hl [0, 1, 2] rfl)
      · have h := it_f cc h
        refine lv_aload_n (pc := 13) hx hb (tb_at tk_X5_weigh 8 rfl) rfl (lv_at hl 1 rfl) ?_
        refine lv_aload_n (pc := 14) hx hb (tb_at tk_X5_weigh 9 rfl) rfl (lv_at hl 2 rfl) ?_
        refine k_get (pc := 15) (v := .ref h_has_a) (T := TX0) B inG0 hW 1 rfl rfl 0 (by decide) q_f_X5_20 rfl rfl (tb_at tk_X5_weigh 10 rfl) ?_
        refine lv_iload_n (pc := 18) hx hb (tb_at tk_X5_weigh 11 rfl) rfl (lv_at hl 3 rfl) ?_
        have ii := ivi_in (ck_l h)
        have h := ck_r h
        refine k_iald (pc := 19) B hW 2 0 rfl rfl ii (tb_at tk_X5_weigh 12 rfl) ?_
        refine k_calli (pc := 20) B (k_runVi (rest := []) (C := RX2) B (c_X2_knows l dC dI cI cZ cQ cW p_o p_weight_a p_nights_a p_wanted_a p_wantCount_a p_wantBits_a p_size p_law (h_has (y3_l7).toNatClampNeg) N _ res h) E0_st (fun _ _ _ => trivial) q_c_X2_knows q_m_X5_26 q_i_X2_knows q_s_X2_knows q_n_X2 hd_X2_knows ⟨rfl, rfl⟩ ⟨Nat.le_of_ble_eq_true rfl, Nat.le_of_ble_eq_true rfl⟩ hW [3] rfl (by decide +kernel) (q0 := 0) (ci := 2) rfl rfl rfl hl.1 rfl (Nat.le_of_ble_eq_true rfl) (tb_at tk_X5_weigh 13 rfl) ⟨Nat.zero_le _, Nat.zero_le _⟩) hW hS [3] rfl [p_o] rfl (fun _ => rfl) [none, none, none, some 0, none, none, none, none, none, none, none, none, none] (by decide +kernel) (fun _ => (w_X5_weigh cI cZ cQ cW z_o z_best_a h_o h_has_a h_left_a h_bits_a p_o p_weight_a p_nights_a p_wanted_a p_wantCount_a p_wantBits_a z_best_r z_hours_l7 h_bitCount h_given h_made h_gone h_law h_has p_size p_law p_wantBits z_best)) (fun _ => rfl) (fun r20 u H locs h hW hS => ?_)
        have hW : PD (dC, dI) A (w_X5_weigh cI cZ cQ cW z_o z_best_a h_o h_has_a h_left_a h_bits_a p_o p_weight_a p_nights_a p_wanted_a p_wantCount_a p_wantBits_a z_best_r z_hours_l7 h_bitCount h_given h_made h_gone h_law h_has p_size p_law p_wantBits z_best) H := hW
        refine lv_if_eq (pc := 23) (tgt := 43) hx hb (tb_at tk_X5_weigh 14 rfl) (by decide) (fun cc => ?_) (fun cc => ?_)
        · have h := it_t cc h
          refine lv_iinc (pc := 43) (v := y3_l7 + 1) (lv' := [(3, .int (y3_l7 + 1)), (0, .ref z_o), (1, .ref p_o), (2, .ref h_o)]) hx hb (tb_at tk_X5_weigh 26 rfl) hl (k := 3) rfl rfl (by decide) rfl (fun ls hl => ?_)
          refine lv_goto (pc := 46) (tgt := 7) hx hb (tb_at tk_X5_weigh 27 rfl) (by decide) ?_
          exact ih7 (y3_l7 + 1) z_hours_l7 _ _ _ h hW hS (lv_sub hl [1, 2, 3, 0] rfl)
        · have h := it_f cc h
          refine lv_aload_n (pc := 26) hx hb (tb_at tk_X5_weigh 15 rfl) rfl (lv_at hl 0 rfl) ?_
          refine lv_dup (pc := 27) hx hb (tb_at tk_X5_weigh 16 rfl) rfl ?_
          refine k_get (pc := 28) (v := .int z_hours_l7) (T := TX5) B inG5 hW 0 rfl rfl 1 (by decide) q_f_X5_16 rfl rfl (tb_at tk_X5_weigh 17 rfl) ?_
          refine lv_iconst (pc := 31) (v := 1) hx hb (tb_at tk_X5_weigh 18 rfl) (by decide) ?_
          refine lv_aload_n (pc := 32) hx hb (tb_at tk_X5_weigh 19 rfl) rfl (lv_at hl 2 rfl) ?_
          refine k_get (pc := 33) (v := .ref h_has_a) (T := TX0) B inG0 hW 1 rfl rfl 0 (by decide) q_f_X5_20 rfl rfl (tb_at tk_X5_weigh 20 rfl) ?_
          refine lv_iload_n (pc := 36) hx hb (tb_at tk_X5_weigh 21 rfl) rfl (lv_at hl 3 rfl) ?_
          have ii := ivi_in (ck_l h)
          have h := ck_r h
          refine k_iald (pc := 37) B hW 2 0 rfl rfl ii (tb_at tk_X5_weigh 22 rfl) ?_
          refine lv_ishl (pc := 38) hx hb (tb_at tk_X5_weigh 23 rfl) ?_
          refine lv_ior (pc := 39) hx hb (tb_at tk_X5_weigh 24 rfl) ?_
          refine k_put (pc := 40) (T := TX5) B inG5 tyX5 tyX5_ok nmX5 hW hS 0 rfl rfl 1 (by decide) q_f_X5_16 rfl rfl rfl rfl (Nat.le_of_ble_eq_true rfl) (tb_at tk_X5_weigh 25 rfl) (w_X5_weigh cI cZ cQ cW z_o z_best_a h_o h_has_a h_left_a h_bits_a p_o p_weight_a p_nights_a p_wanted_a p_wantCount_a p_wantBits_a z_best_r (z_hours_l7 ||| ((1 : Int32) <<< ((h_has (y3_l7).toNatClampNeg) &&& 31))) h_bitCount h_given h_made h_gone h_law h_has p_size p_law p_wantBits z_best) rfl (fun H locs hW hS => ?_)
          refine lv_iinc (pc := 43) (v := y3_l7 + 1) (lv' := [(3, .int (y3_l7 + 1)), (0, .ref z_o), (1, .ref p_o), (2, .ref h_o)]) hx hb (tb_at tk_X5_weigh 26 rfl) hl (k := 3) rfl rfl (by decide) rfl (fun ls hl => ?_)
          refine lv_goto (pc := 46) (tgt := 7) hx hb (tb_at tk_X5_weigh 27 rfl) (by decide) ?_
          exact ih7 (y3_l7 + 1) (z_hours_l7 ||| ((1 : Int32) <<< ((h_has (y3_l7).toNatClampNeg) &&& 31))) _ _ _ h hW hS (lv_sub hl [1, 2, 3, 0] rfl)
  exact w7 N 0 0 _ _ _ h hW hS (lv_sub hl [1, 2, 3, 0] rfl)
def f_X5_mostServed {ρ : Type} (N : Nat) (z_hours : Int32) (z_best : Nat → Nat → Int32) (k : Int32 → Option ρ) : Option ρ := ck (ivi (0 : Int32) 7) (ck (ivi z_hours 64) (k (z_best ((0 : Int32)).toNatClampNeg (z_hours).toNatClampNeg)))
abbrev w_X5_mostServed (cI cZ cQ cW : ClassId) (z_o : Nat) (z_best_a : Nat) (z_best_r : Nat → Nat) (z_hours : Int32) (z_best : Nat → Nat → Int32) : va_W := [(z_o, .inr (5, [.ref z_best_a, .int z_hours])), (z_best_a, .inl (cW, 7, .inr (.inr (.inr (.inr (fun i => if i < 7 then some (z_best_r i) else none)))))), (z_best_r 0, .inl (cI, 64, .inl (z_best 0))), (z_best_r 1, .inl (cI, 64, .inl (z_best 1))), (z_best_r 2, .inl (cI, 64, .inl (z_best 2))), (z_best_r 3, .inl (cI, 64, .inl (z_best 3))), (z_best_r 4, .inl (cI, 64, .inl (z_best 4))), (z_best_r 5, .inl (cI, 64, .inl (z_best 5))), (z_best_r 6, .inl (cI, 64, .inl (z_best 6)))]
abbrev rm_X5_mostServed : Room := { frames := 0, cells := 0, slots := 0, locals := 0 }
set_option maxHeartbeats 4000000 in
set_option maxRecDepth 100000 in
theorem c_X5_mostServed (l : Launch) (dC : Nat → ClassId) (dI : Nat → Nat → Nat) (cI cZ cQ cW : ClassId) (z_o : Nat) (z_best_a : Nat) (z_best_r : Nat → Nat) (z_hours : Int32) (z_best : Nat → Nat → Int32) {ρ : Type} (N : Nat) (k : Int32 → Option ρ) (res : ρ) (h : f_X5_mostServed N z_hours z_best k = some res) : Ci l yX5_mostServed (WS yX5_mostServed cX5_mostServed 1 (some .int)) rm_X5_mostServed (dC, dI) (tysG cI cZ cQ cW) E0 [.ref z_o] (w_X5_mostServed cI cZ cQ cW z_o z_best_a z_best_r z_hours z_best) (fun (_ : Unit) => (w_X5_mostServed cI cZ cQ cW z_o z_best_a z_best_r z_hours z_best)) (fun r _ => k r = some res) := by
  refine Ci.of (cc := cX5_mostServed) (n := 1) (by decide +kernel) (Nat.le_of_ble_eq_true rfl) ?_
  intro p e s m args below meth c A ls Q B hW hE hS hl hQ
  have hx := B.1
  have hb := B.2.1
  have hl : lv_has ls 1 [(0, .ref z_o)] := hl
  unfold f_X5_mostServed at h
  refine lv_aload_n (pc := 0) hx hb (tb_at tk_X5_mostServed 0 rfl) rfl (lv_at hl 0 rfl) ?_
  refine k_get (pc := 1) (v := .ref z_best_a) (T := TX5) B inG5 hW 0 rfl rfl 0 (by decide) q_f_X5_13 rfl rfl (tb_at tk_X5_mostServed 1 rfl) ?_
  refine lv_iconst (pc := 4) (v := 0) hx hb (tb_at tk_X5_mostServed 2 rfl) (by decide) ?_
  have ir5 := ivi_in (ck_l h)
  have h := ck_r h
  refine k_aldr (pc := 5) (r := z_best_r) B hW 1 3 rfl rfl ir5 (tb_at tk_X5_mostServed 3 rfl) ?_
  refine lv_aload_n (pc := 6) hx hb (tb_at tk_X5_mostServed 4 rfl) rfl (lv_at hl 0 rfl) ?_
  refine k_get (pc := 7) (v := .int z_hours) (T := TX5) B inG5 hW 0 rfl rfl 1 (by decide) q_f_X5_16 rfl rfl (tb_at tk_X5_mostServed 5 rfl) ?_
  have ii := ivi_in (ck_l h)
  have h := ck_r h
  refine k_rald (pc := 10) (x := (0 : Int32)) (r := z_best_r) (g := z_best) B hW 2 0 (row7 rfl rfl rfl rfl rfl rfl rfl) rfl ir5 ii (tb_at tk_X5_mostServed 6 rfl) ?_
  exact hQ (z_best ((0 : Int32)).toNatClampNeg (z_hours).toNatClampNeg) () _ _ _ 11 rfl h hW hS (tb_at tk_X5_mostServed 7 rfl)
def f_X5_firstFor_l3 {ρ : Type} (x1 : Int32) (x2 : Int32) (x3 : Int32) (z_best : Nat → Nat → Int32) (k : Int32 → Option ρ) (N : Nat) : Nat → Int32 → Option ρ
  | 0, _ => none
  | n3 + 1, y4_l3 => if 6 ≤ y4_l3 then (k (-9)) else (f_X7_holds N x2 y4_l3 (fun r13 => if r13 = 0 then ((f_X5_firstFor_l3 x1 x2 x3 z_best k N n3) (y4_l3 + 1)) else (ck (ivi (x1 + 1) 7) (ck (ivi (x3 &&& (((1 : Int32) <<< (y4_l3 &&& 31)) ^^^ (-1))) 64) (ck (ivi x1 7) (ck (ivi x3 64) (if ((1 : Int32) + (z_best (x1 + 1).toNatClampNeg (x3 &&& (((1 : Int32) <<< (y4_l3 &&& 31)) ^^^ (-1))).toNatClampNeg)) = (z_best (x1).toNatClampNeg (x3).toNatClampNeg) then (k y4_l3) else ((f_X5_firstFor_l3 x1 x2 x3 z_best k N n3) (y4_l3 + 1)))))))))
def f_X5_firstFor {ρ : Type} (N : Nat) (z_best : Nat → Nat → Int32) (x1 : Int32) (x2 : Int32) (x3 : Int32) (k : Int32 → Option ρ) : Option ρ := f_X5_firstFor_l3 x1 x2 x3 z_best k N N 0
abbrev w_X5_firstFor (cI cZ cQ cW : ClassId) (z_o : Nat) (z_best_a : Nat) (z_best_r : Nat → Nat) (z_hours : Int32) (z_best : Nat → Nat → Int32) : va_W := [(z_o, .inr (5, [.ref z_best_a, .int z_hours])), (z_best_a, .inl (cW, 7, .inr (.inr (.inr (.inr (fun i => if i < 7 then some (z_best_r i) else none)))))), (z_best_r 0, .inl (cI, 64, .inl (z_best 0))), (z_best_r 1, .inl (cI, 64, .inl (z_best 1))), (z_best_r 2, .inl (cI, 64, .inl (z_best 2))), (z_best_r 3, .inl (cI, 64, .inl (z_best 3))), (z_best_r 4, .inl (cI, 64, .inl (z_best 4))), (z_best_r 5, .inl (cI, 64, .inl (z_best 5))), (z_best_r 6, .inl (cI, 64, .inl (z_best 6)))]
abbrev rm_X5_firstFor : Room := { frames := 1, cells := 0, slots := 0, locals := 21 }
set_option maxHeartbeats 4000000 in
set_option maxRecDepth 100000 in
theorem c_X5_firstFor (l : Launch) (dC : Nat → ClassId) (dI : Nat → Nat → Nat) (cI cZ cQ cW : ClassId) (z_o : Nat) (z_best_a : Nat) (z_best_r : Nat → Nat) (z_hours : Int32) (z_best : Nat → Nat → Int32) (x1 : Int32) (x2 : Int32) (x3 : Int32) {ρ : Type} (N : Nat) (k : Int32 → Option ρ) (res : ρ) (h : f_X5_firstFor N z_best x1 x2 x3 k = some res) : Ci l yX5_firstFor (WS yX5_firstFor cX5_firstFor 5 (some .int)) rm_X5_firstFor (dC, dI) (tysG cI cZ cQ cW) E0 [.ref z_o, .int x1, .int x2, .int x3] (w_X5_firstFor cI cZ cQ cW z_o z_best_a z_best_r z_hours z_best) (fun (_ : Unit) => (w_X5_firstFor cI cZ cQ cW z_o z_best_a z_best_r z_hours z_best)) (fun r _ => k r = some res) := by
  refine Ci.of (cc := cX5_firstFor) (n := 5) (by decide +kernel) (Nat.le_of_ble_eq_true rfl) ?_
  intro p e s m args below meth c A ls Q B hW hE hS hl hQ
  have hx := B.1
  have hb := B.2.1
  have hl : lv_has ls 5 [(0, .ref z_o), (1, .int x1), (2, .int x2), (3, .int x3)] := hl
  unfold f_X5_firstFor at h
  refine lv_iconst (pc := 0) (v := 0) hx hb (tb_at tk_X5_firstFor 0 rfl) (by decide) ?_
  refine lv_istore (pc := 1) (lv' := [(4, .int 0), (0, .ref z_o), (1, .int x1), (2, .int x2), (3, .int x3)]) hx hb (tb_at tk_X5_firstFor 1 rfl) hl (by decide) rfl (fun ls hl => ?_)
  have w3 : ∀ (n : Nat), ∀ (y4_l3 : Int32) (H : Heap) (locs : List Loc) (ls : Array Slot), f_X5_firstFor_l3 x1 x2 x3 z_best k N n y4_l3 = some res → PD (dC, dI) A (w_X5_firstFor cI cZ cQ cW z_o z_best_a z_best_r z_hours z_best) H → va_S A s.heap H locs → lv_has ls 5 [(0, .ref z_o), (1, .int x1), (2, .int x2), (3, .int x3), (4, .int y4_l3)] → W p l e rm_X5_firstFor s m args below meth c H locs 0 0 Q (F0 m 3 ls []) := by
    intro n
    induction n with
    | zero => intro y4_l3 H locs ls h; exact no_n h
    | succ n3 ih3 =>
      intro y4_l3 H locs ls h hW hS hl
      rw [f_X5_firstFor_l3] at h
      refine lv_iload (pc := 3) hx hb (tb_at tk_X5_firstFor 2 rfl) (lv_at hl 4 rfl) ?_
      refine lv_bipush (pc := 5) (v := 6) hx hb (tb_at tk_X5_firstFor 3 rfl) (by decide) ?_
      refine lv_icmp_ge (pc := 7) (tgt := 58) hx hb (tb_at tk_X5_firstFor 4 rfl) (by decide) (fun cc => ?_) (fun cc => ?_)
      · have h := it_t cc h
        refine lv_bipush (pc := 58) (v := (-9)) hx hb (tb_at tk_X5_firstFor 36 rfl) (by decide) ?_
        exact hQ (-9) () _ _ _ 60 rfl h hW hS (tb_at tk_X5_firstFor 37 rfl)
      · have h := it_f cc h
        refine lv_iload_n (pc := 10) hx hb (tb_at tk_X5_firstFor 5 rfl) rfl (lv_at hl 2 rfl) ?_
        refine lv_iload (pc := 11) hx hb (tb_at tk_X5_firstFor 6 rfl) (lv_at hl 4 rfl) ?_
        refine k_call0 (pc := 13) B (k_runNi (rest := []) (host := RX7) B (c_X7_holds l dC dI cI cZ cQ cW   x2 y4_l3 N _ res h) E0_st (fun _ _ _ => trivial) q_c_X7_holds q_h_X5_50 q_t_X7_holds q_n_X7 hd_X7_holds ⟨rfl, rfl⟩ ⟨Nat.le_of_ble_eq_true rfl, Nat.le_of_ble_eq_true rfl⟩ hW [] rfl (by decide +kernel) rfl hl.1 rfl (Nat.le_of_ble_eq_true rfl) (tb_at tk_X5_firstFor 7 rfl) ⟨Nat.zero_le _, Nat.zero_le _⟩) hW hS (fun r13 u H locs h hW hS => ?_)
        refine lv_if_eq (pc := 16) (tgt := 52) hx hb (tb_at tk_X5_firstFor 8 rfl) (by decide) (fun cc => ?_) (fun cc => ?_)
        · have h := it_t cc h
          refine lv_iinc (pc := 52) (v := y4_l3 + 1) (lv' := [(4, .int (y4_l3 + 1)), (0, .ref z_o), (1, .int x1), (2, .int x2), (3, .int x3)]) hx hb (tb_at tk_X5_firstFor 34 rfl) hl (k := 4) rfl rfl (by decide) rfl (fun ls hl => ?_)
          refine lv_goto (pc := 55) (tgt := 3) hx hb (tb_at tk_X5_firstFor 35 rfl) (by decide) ?_
          exact ih3 (y4_l3 + 1) _ _ _ h hW hS (lv_sub hl [1, 2, 3, 4, 0] rfl)
        · have h := it_f cc h
          refine lv_iconst (pc := 19) (v := 1) hx hb (tb_at tk_X5_firstFor 9 rfl) (by decide) ?_
          refine lv_aload_n (pc := 20) hx hb (tb_at tk_X5_firstFor 10 rfl) rfl (lv_at hl 0 rfl) ?_
          refine k_get (pc := 21) (v := .ref z_best_a) (T := TX5) B inG5 hW 0 rfl rfl 0 (by decide) q_f_X5_13 rfl rfl (tb_at tk_X5_firstFor 11 rfl) ?_
          refine lv_iload_n (pc := 24) hx hb (tb_at tk_X5_firstFor 12 rfl) rfl (lv_at hl 1 rfl) ?_
          refine lv_iconst (pc := 25) (v := 1) hx hb (tb_at tk_X5_firstFor 13 rfl) (by decide) ?_
          refine lv_iadd (pc := 26) hx hb (tb_at tk_X5_firstFor 14 rfl) ?_
          have ir27 := ivi_in (ck_l h)
          have h := ck_r h
          refine k_aldr (pc := 27) (r := z_best_r) B hW 1 3 rfl rfl ir27 (tb_at tk_X5_firstFor 15 rfl) ?_
          refine lv_iload_n (pc := 28) hx hb (tb_at tk_X5_firstFor 16 rfl) rfl (lv_at hl 3 rfl) ?_
          refine lv_iconst (pc := 29) (v := 1) hx hb (tb_at tk_X5_firstFor 17 rfl) (by decide) ?_
          refine lv_iload (pc := 30) hx hb (tb_at tk_X5_firstFor 18 rfl) (lv_at hl 4 rfl) ?_
          refine lv_ishl (pc := 32) hx hb (tb_at tk_X5_firstFor 19 rfl) ?_
          refine lv_iconst (pc := 33) (v := (-1)) hx hb (tb_at tk_X5_firstFor 20 rfl) (by decide) ?_
          refine lv_ixor (pc := 34) hx hb (tb_at tk_X5_firstFor 21 rfl) ?_
          refine lv_iand (pc := 35) hx hb (tb_at tk_X5_firstFor 22 rfl) ?_
          have ii := ivi_in (ck_l h)
          have h := ck_r h
          refine k_rald (pc := 36) (x := x1 + 1) (r := z_best_r) (g := z_best) B hW 2 0 (row7 rfl rfl rfl rfl rfl rfl rfl) rfl ir27 ii (tb_at tk_X5_firstFor 23 rfl) ?_
          refine lv_iadd (pc := 37) hx hb (tb_at tk_X5_firstFor 24 rfl) ?_
          refine lv_aload_n (pc := 38) hx hb (tb_at tk_X5_firstFor 25 rfl) rfl (lv_at hl 0 rfl) ?_
          refine k_get (pc := 39) (v := .ref z_best_a) (T := TX5) B inG5 hW 0 rfl rfl 0 (by decide) q_f_X5_13 rfl rfl (tb_at tk_X5_firstFor 26 rfl) ?_
          refine lv_iload_n (pc := 42) hx hb (tb_at tk_X5_firstFor 27 rfl) rfl (lv_at hl 1 rfl) ?_
          have ir43 := ivi_in (ck_l h)
          have h := ck_r h
          refine k_aldr (pc := 43) (r := z_best_r) B hW 1 3 rfl rfl ir43 (tb_at tk_X5_firstFor 28 rfl) ?_
          refine lv_iload_n (pc := 44) hx hb (tb_at tk_X5_firstFor 29 rfl) rfl (lv_at hl 3 rfl) ?_
          have ii := ivi_in (ck_l h)
          have h := ck_r h
          refine k_rald (pc := 45) (x := x1) (r := z_best_r) (g := z_best) B hW 2 0 (row7 rfl rfl rfl rfl rfl rfl rfl) rfl ir43 ii (tb_at tk_X5_firstFor 30 rfl) ?_
          refine lv_icmp_ne (pc := 46) (tgt := 52) hx hb (tb_at tk_X5_firstFor 31 rfl) (by decide) (fun cc => ?_) (fun cc => ?_)
          · have h := it_f cc h
            refine lv_iinc (pc := 52) (v := y4_l3 + 1) (lv' := [(4, .int (y4_l3 + 1)), (0, .ref z_o), (1, .int x1), (2, .int x2), (3, .int x3)]) hx hb (tb_at tk_X5_firstFor 34 rfl) hl (k := 4) rfl rfl (by decide) rfl (fun ls hl => ?_)
            refine lv_goto (pc := 55) (tgt := 3) hx hb (tb_at tk_X5_firstFor 35 rfl) (by decide) ?_
            exact ih3 (y4_l3 + 1) _ _ _ h hW hS (lv_sub hl [1, 2, 3, 4, 0] rfl)
          · have h := it_t cc h
            refine lv_iload (pc := 49) hx hb (tb_at tk_X5_firstFor 32 rfl) (lv_at hl 4 rfl) ?_
            exact hQ y4_l3 () _ _ _ 51 rfl h hW hS (tb_at tk_X5_firstFor 33 rfl)
  exact w3 N 0 _ _ _ h hW hS (lv_sub hl [1, 2, 3, 4, 0] rfl)
def f_X5_hourOf_l13 {ρ : Type} (x1 : Int32) (p_size : Int32) (h_has : Nat → Int32) (p_wantBits : Nat → Int32) (z_best : Nat → Nat → Int32) (k : Int32 → Option ρ) (N : Nat) : Nat → Int32 → Int32 → Int32 → Option ρ
  | 0, _, _, _ => none
  | n13 + 1, y4_l13, y5_l13, y6_l13 => if x1 < y6_l13 then (k y5_l13) else (f_X5_wishOf N p_size h_has p_wantBits y6_l13 (fun r26 => f_X5_firstFor N z_best y6_l13 (r26 &&& y4_l13) y4_l13 (fun r34 => if r34 = (-9) then ((f_X5_hourOf_l13 x1 p_size h_has p_wantBits z_best k N n13) y4_l13 r34 (y6_l13 + 1)) else ((f_X5_hourOf_l13 x1 p_size h_has p_wantBits z_best k N n13) (y4_l13 &&& (((1 : Int32) <<< (r34 &&& 31)) ^^^ (-1))) r34 (y6_l13 + 1)))))
def f_X5_hourOf {ρ : Type} (N : Nat) (z_hours : Int32) (p_size : Int32) (h_has : Nat → Int32) (p_wantBits : Nat → Int32) (z_best : Nat → Nat → Int32) (x1 : Int32) (k : Int32 → Option ρ) : Option ρ := f_X5_hourOf_l13 x1 p_size h_has p_wantBits z_best k N N z_hours (-9) 0
abbrev w_X5_hourOf (cI cZ cQ cW : ClassId) (z_o : Nat) (z_best_a : Nat) (p_o : Nat) (p_weight_a : Nat) (p_nights_a : Nat) (p_wanted_a : Nat) (p_wantCount_a : Nat) (p_wantBits_a : Nat) (h_o : Nat) (h_has_a : Nat) (h_left_a : Nat) (h_bits_a : Nat) (z_best_r : Nat → Nat) (z_hours : Int32) (p_size : Int32) (p_law : Int32) (h_bitCount : Int32) (h_given : Int32) (h_made : Int32) (h_gone : Int32) (h_law : Int32) (h_has : Nat → Int32) (p_wantBits : Nat → Int32) (z_best : Nat → Nat → Int32) : va_W := [(z_o, .inr (5, [.ref z_best_a, .int z_hours])), (p_o, .inr (2, [.ref p_weight_a, .ref p_nights_a, .ref p_wanted_a, .ref p_wantCount_a, .ref p_wantBits_a, .int p_size, .int p_law])), (h_o, .inr (0, [.ref h_has_a, .ref h_left_a, .ref h_bits_a, .int h_bitCount, .int h_given, .int h_made, .int h_gone, .int h_law])), (h_has_a, .inl (cI, 6, .inl h_has)), (p_wantBits_a, .inl (cI, 6, .inl p_wantBits)), (z_best_a, .inl (cW, 7, .inr (.inr (.inr (.inr (fun i => if i < 7 then some (z_best_r i) else none)))))), (z_best_r 0, .inl (cI, 64, .inl (z_best 0))), (z_best_r 1, .inl (cI, 64, .inl (z_best 1))), (z_best_r 2, .inl (cI, 64, .inl (z_best 2))), (z_best_r 3, .inl (cI, 64, .inl (z_best 3))), (z_best_r 4, .inl (cI, 64, .inl (z_best 4))), (z_best_r 5, .inl (cI, 64, .inl (z_best 5))), (z_best_r 6, .inl (cI, 64, .inl (z_best 6)))]
abbrev rm_X5_hourOf : Room := { frames := 2, cells := 0, slots := 0, locals := 45 }
set_option maxHeartbeats 4000000 in
set_option maxRecDepth 100000 in
theorem c_X5_hourOf (l : Launch) (dC : Nat → ClassId) (dI : Nat → Nat → Nat) (cI cZ cQ cW : ClassId) (z_o : Nat) (z_best_a : Nat) (p_o : Nat) (p_weight_a : Nat) (p_nights_a : Nat) (p_wanted_a : Nat) (p_wantCount_a : Nat) (p_wantBits_a : Nat) (h_o : Nat) (h_has_a : Nat) (h_left_a : Nat) (h_bits_a : Nat) (z_best_r : Nat → Nat) (z_hours : Int32) (p_size : Int32) (p_law : Int32) (h_bitCount : Int32) (h_given : Int32) (h_made : Int32) (h_gone : Int32) (h_law : Int32) (h_has : Nat → Int32) (p_wantBits : Nat → Int32) (z_best : Nat → Nat → Int32) (x1 : Int32) {ρ : Type} (N : Nat) (k : Int32 → Option ρ) (res : ρ) (h : f_X5_hourOf N z_hours p_size h_has p_wantBits z_best x1 k = some res) : Ci l yX5_hourOf (WS yX5_hourOf cX5_hourOf 7 (some .int)) rm_X5_hourOf (dC, dI) (tysG cI cZ cQ cW) E0 [.ref z_o, .int x1, .ref p_o, .ref h_o] (w_X5_hourOf cI cZ cQ cW z_o z_best_a p_o p_weight_a p_nights_a p_wanted_a p_wantCount_a p_wantBits_a h_o h_has_a h_left_a h_bits_a z_best_r z_hours p_size p_law h_bitCount h_given h_made h_gone h_law h_has p_wantBits z_best) (fun (_ : Unit) => (w_X5_hourOf cI cZ cQ cW z_o z_best_a p_o p_weight_a p_nights_a p_wanted_a p_wantCount_a p_wantBits_a h_o h_has_a h_left_a h_bits_a z_best_r z_hours p_size p_law h_bitCount h_given h_made h_gone h_law h_has p_wantBits z_best)) (fun r _ => k r = some res) := by
  refine Ci.of (cc := cX5_hourOf) (n := 7) (by decide +kernel) (Nat.le_of_ble_eq_true rfl) ?_
  intro p e s m args below meth c A ls Q B hW hE hS hl hQ
  have hx := B.1
  have hb := B.2.1
  have hl : lv_has ls 7 [(0, .ref z_o), (1, .int x1), (2, .ref p_o), (3, .ref h_o)] := hl
  unfold f_X5_hourOf at h
  refine lv_aload_n (pc := 0) hx hb (tb_at tk_X5_hourOf 0 rfl) rfl (lv_at hl 0 rfl) ?_
  refine k_get (pc := 1) (v := .int z_hours) (T := TX5) B inG5 hW 0 rfl rfl 1 (by decide) q_f_X5_16 rfl rfl (tb_at tk_X5_hourOf 1 rfl) ?_
  refine lv_istore (pc := 4) (lv' := [(4, .int z_hours), (0, .ref z_o), (1, .int x1), (2, .ref p_o), (3, .ref h_o)]) hx hb (tb_at tk_X5_hourOf 2 rfl) hl (by decide) rfl (fun ls hl => ?_)
  refine lv_bipush (pc := 6) (v := (-9)) hx hb (tb_at tk_X5_hourOf 3 rfl) (by decide) ?_
  refine lv_istore (pc := 8) (lv' := [(5, .int (-9)), (4, .int z_hours), (0, .ref z_o), (1, .int x1), (2, .ref p_o), (3, .ref h_o)]) hx hb (tb_at tk_X5_hourOf 4 rfl) hl (by decide) rfl (fun ls hl => ?_)
  refine lv_iconst (pc := 10) (v := 0) hx hb (tb_at tk_X5_hourOf 5 rfl) (by decide) ?_
  refine lv_istore (pc := 11) (lv' := [(6, .int 0), (5, .int (-9)), (4, .int z_hours), (0, .ref z_o), (1, .int x1), (2, .ref p_o), (3, .ref h_o)]) hx hb (tb_at tk_X5_hourOf 6 rfl) hl (by decide) rfl (fun ls hl => ?_)
  have w13 : ∀ (n : Nat), ∀ (y4_l13 : Int32) (y5_l13 : Int32) (y6_l13 : Int32) (H : Heap) (locs : List Loc) (ls : Array Slot), f_X5_hourOf_l13 x1 p_size h_has p_wantBits z_best k N n y4_l13 y5_l13 y6_l13 = some res → PD (dC, dI) A (w_X5_hourOf cI cZ cQ cW z_o z_best_a p_o p_weight_a p_nights_a p_wanted_a p_wantCount_a p_wantBits_a h_o h_has_a h_left_a h_bits_a z_best_r z_hours p_size p_law h_bitCount h_given h_made h_gone h_law h_has p_wantBits z_best) H → va_S A s.heap H locs → lv_has ls 7 [(0, .ref z_o), (1, .int x1), (2, .ref p_o), (3, .ref h_o), (4, .int y4_l13), (5, .int y5_l13), (6, .int y6_l13)] → W p l e rm_X5_hourOf s m args below meth c H locs 0 0 Q (F0 m 13 ls []) := by
    intro n
    induction n with
    | zero => intro y4_l13 y5_l13 y6_l13 H locs ls h; exact no_n h
    | succ n13 ih13 =>
      intro y4_l13 y5_l13 y6_l13 H locs ls h hW hS hl
      rw [f_X5_hourOf_l13] at h
      refine lv_iload (pc := 13) hx hb (tb_at tk_X5_hourOf 7 rfl) (lv_at hl 6 rfl) ?_
      refine lv_iload_n (pc := 15) hx hb (tb_at tk_X5_hourOf 8 rfl) rfl (lv_at hl 1 rfl) ?_
      refine lv_icmp_gt (pc := 16) (tgt := 63) hx hb (tb_at tk_X5_hourOf 9 rfl) (by decide) (fun cc => ?_) (fun cc => ?_)
      · have h := it_t cc h
        refine lv_iload (pc := 63) hx hb (tb_at tk_X5_hourOf 34 rfl) (lv_at hl 5 rfl) ?_
        exact hQ y5_l13 () _ _ _ 65 rfl h hW hS (tb_at tk_X5_hourOf 35 rfl)
      · have h := it_f cc h
        refine lv_aload_n (pc := 19) hx hb (tb_at tk_X5_hourOf 10 rfl) rfl (lv_at hl 0 rfl) ?_
        refine lv_iload (pc := 20) hx hb (tb_at tk_X5_hourOf 11 rfl) (lv_at hl 6 rfl) ?_
        refine lv_iload (pc := 22) hx hb (tb_at tk_X5_hourOf 12 rfl) (lv_at hl 6 rfl) ?_
        refine lv_aload_n (pc := 24) hx hb (tb_at tk_X5_hourOf 13 rfl) rfl (lv_at hl 2 rfl) ?_
        refine lv_aload_n (pc := 25) hx hb (tb_at tk_X5_hourOf 14 rfl) rfl (lv_at hl 3 rfl) ?_
        refine k_calli (pc := 26) B (k_runSi (rest := [.int y6_l13, .ref z_o]) (host := "") B (c_X5_wishOf l dC dI cI cZ cQ cW p_o p_weight_a p_nights_a p_wanted_a p_wantCount_a p_wantBits_a h_o h_has_a h_left_a h_bits_a p_size p_law h_bitCount h_given h_made h_gone h_law h_has p_wantBits y6_l13 N _ res h) E0_st (fun _ _ _ => trivial) q_c_X5_wishOf q_m_X5_32 q_t_X5_wishOf q_n_X5 hd_X5_wishOf ⟨rfl, rfl⟩ ⟨Nat.le_of_ble_eq_true rfl, Nat.le_of_ble_eq_true rfl⟩ hW [1, 2, 3, 4] rfl (by decide +kernel) rfl hl.1 rfl (Nat.le_of_ble_eq_true rfl) (tb_at tk_X5_hourOf 15 rfl) ⟨Nat.zero_le _, Nat.zero_le _⟩) hW hS [1, 2, 3, 4] rfl [p_o, h_o, h_has_a, p_wantBits_a] rfl (fun _ => rfl) [none, some 0, some 1, some 2, some 3, none, none, none, none, none, none, none, none] (by decide +kernel) (fun _ => (w_X5_hourOf cI cZ cQ cW z_o z_best_a p_o p_weight_a p_nights_a p_wanted_a p_wantCount_a p_wantBits_a h_o h_has_a h_left_a h_bits_a z_best_r z_hours p_size p_law h_bitCount h_given h_made h_gone h_law h_has p_wantBits z_best)) (fun _ => rfl) (fun r26 u H locs h hW hS => ?_)
        have hW : PD (dC, dI) A (w_X5_hourOf cI cZ cQ cW z_o z_best_a p_o p_weight_a p_nights_a p_wanted_a p_wantCount_a p_wantBits_a h_o h_has_a h_left_a h_bits_a z_best_r z_hours p_size p_law h_bitCount h_given h_made h_gone h_law h_has p_wantBits z_best) H := hW
        refine lv_iload (pc := 29) hx hb (tb_at tk_X5_hourOf 16 rfl) (lv_at hl 4 rfl) ?_
        refine lv_iand (pc := 31) hx hb (tb_at tk_X5_hourOf 17 rfl) ?_
        refine lv_iload (pc := 32) hx hb (tb_at tk_X5_hourOf 18 rfl) (lv_at hl 4 rfl) ?_
        refine k_calli (pc := 34) B (k_runVi (rest := []) (C := RX5) B (c_X5_firstFor l dC dI cI cZ cQ cW z_o z_best_a z_best_r z_hours z_best y6_l13 (r26 &&& y4_l13) y4_l13 N _ res h) E0_st (fun _ _ _ => trivial) q_c_X5_firstFor q_m_X5_44 q_i_X5_firstFor q_s_X5_firstFor q_n_X5 hd_X5_firstFor ⟨rfl, rfl⟩ ⟨Nat.le_of_ble_eq_true rfl, Nat.le_of_ble_eq_true rfl⟩ hW [0, 5, 6, 7, 8, 9, 10, 11, 12] rfl (by decide +kernel) (q0 := 0) (ci := 5) rfl rfl rfl hl.1 rfl (Nat.le_of_ble_eq_true rfl) (tb_at tk_X5_hourOf 19 rfl) ⟨Nat.zero_le _, Nat.zero_le _⟩) hW hS [0, 5, 6, 7, 8, 9, 10, 11, 12] rfl [z_o, z_best_a, z_best_r 0, z_best_r 1, z_best_r 2, z_best_r 3, z_best_r 4, z_best_r 5, z_best_r 6] rfl (fun _ => rfl) [some 0, none, none, none, none, some 1, some 2, some 3, some 4, some 5, some 6, some 7, some 8] (by decide +kernel) (fun _ => (w_X5_hourOf cI cZ cQ cW z_o z_best_a p_o p_weight_a p_nights_a p_wanted_a p_wantCount_a p_wantBits_a h_o h_has_a h_left_a h_bits_a z_best_r z_hours p_size p_law h_bitCount h_given h_made h_gone h_law h_has p_wantBits z_best)) (fun _ => rfl) (fun r34 u H locs h hW hS => ?_)
        have hW : PD (dC, dI) A (w_X5_hourOf cI cZ cQ cW z_o z_best_a p_o p_weight_a p_nights_a p_wanted_a p_wantCount_a p_wantBits_a h_o h_has_a h_left_a h_bits_a z_best_r z_hours p_size p_law h_bitCount h_given h_made h_gone h_law h_has p_wantBits z_best) H := hW
        refine lv_istore (pc := 37) (lv' := [(5, .int r34), (0, .ref z_o), (1, .int x1), (2, .ref p_o), (3, .ref h_o), (4, .int y4_l13), (6, .int y6_l13)]) hx hb (tb_at tk_X5_hourOf 20 rfl) hl (by decide) rfl (fun ls hl => ?_)
        refine lv_iload (pc := 39) hx hb (tb_at tk_X5_hourOf 21 rfl) (lv_at hl 0 rfl) ?_
        refine lv_bipush (pc := 41) (v := (-9)) hx hb (tb_at tk_X5_hourOf 22 rfl) (by decide) ?_
        refine lv_icmp_eq (pc := 43) (tgt := 57) hx hb (tb_at tk_X5_hourOf 23 rfl) (by decide) (fun cc => ?_) (fun cc => ?_)
        · have h := it_t cc h
          refine lv_iinc (pc := 57) (v := y6_l13 + 1) (lv' := [(6, .int (y6_l13 + 1)), (5, .int r34), (0, .ref z_o), (1, .int x1), (2, .ref p_o), (3, .ref h_o), (4, .int y4_l13)]) hx hb (tb_at tk_X5_hourOf 32 rfl) hl (k := 6) rfl rfl (by decide) rfl (fun ls hl => ?_)
          refine lv_goto (pc := 60) (tgt := 13) hx hb (tb_at tk_X5_hourOf 33 rfl) (by decide) ?_
          exact ih13 y4_l13 r34 (y6_l13 + 1) _ _ _ h hW hS (lv_sub hl [2, 3, 4, 5, 6, 1, 0] rfl)
        · have h := it_f cc h
          refine lv_iload (pc := 46) hx hb (tb_at tk_X5_hourOf 24 rfl) (lv_at hl 5 rfl) ?_
          refine lv_iconst (pc := 48) (v := 1) hx hb (tb_at tk_X5_hourOf 25 rfl) (by decide) ?_
          refine lv_iload (pc := 49) hx hb (tb_at tk_X5_hourOf 26 rfl) (lv_at hl 0 rfl) ?_
          refine lv_ishl (pc := 51) hx hb (tb_at tk_X5_hourOf 27 rfl) ?_
          refine lv_iconst (pc := 52) (v := (-1)) hx hb (tb_at tk_X5_hourOf 28 rfl) (by decide) ?_
          refine lv_ixor (pc := 53) hx hb (tb_at tk_X5_hourOf 29 rfl) ?_
          refine lv_iand (pc := 54) hx hb (tb_at tk_X5_hourOf 30 rfl) ?_
          refine lv_istore (pc := 55) (lv' := [(4, .int (y4_l13 &&& (((1 : Int32) <<< (r34 &&& 31)) ^^^ (-1)))), (5, .int r34), (0, .ref z_o), (1, .int x1), (2, .ref p_o), (3, .ref h_o), (6, .int y6_l13)]) hx hb (tb_at tk_X5_hourOf 31 rfl) hl (by decide) rfl (fun ls hl => ?_)
          refine lv_iinc (pc := 57) (v := y6_l13 + 1) (lv' := [(6, .int (y6_l13 + 1)), (4, .int (y4_l13 &&& (((1 : Int32) <<< (r34 &&& 31)) ^^^ (-1)))), (5, .int r34), (0, .ref z_o), (1, .int x1), (2, .ref p_o), (3, .ref h_o)]) hx hb (tb_at tk_X5_hourOf 32 rfl) hl (k := 6) rfl rfl (by decide) rfl (fun ls hl => ?_)
          refine lv_goto (pc := 60) (tgt := 13) hx hb (tb_at tk_X5_hourOf 33 rfl) (by decide) ?_
          exact ih13 (y4_l13 &&& (((1 : Int32) <<< (r34 &&& 31)) ^^^ (-1))) r34 (y6_l13 + 1) _ _ _ h hW hS (lv_sub hl [3, 4, 5, 6, 1, 2, 0] rfl)
  exact w13 N z_hours (-9) 0 _ _ _ h hW hS (lv_sub hl [3, 4, 5, 6, 2, 1, 0] rfl)
def f_X6_lay_l46 {ρ : Type} (b_c : Nat → Int32) (x2 : Int32) (zp_size : Int32) (z_got_e44 : Nat → Int32) (k : Int32 → Int32 → Int32 → (Nat → Int32) → (Nat → Int32) → (Nat → Int32) → Option ρ) (N : Nat) : Nat → Int32 → Int32 → (Nat → Int32) → (Nat → Int32) → Option ρ
  | 0, _, _, _, _ => none
  | n46 + 1, y3_l46, z_left_l46, z_giver_l46, z_gave_l46 => if zp_size ≤ y3_l46 then (k z_left_l46 0 0 z_giver_l46 z_got_e44 z_gave_l46) else (f_X7_holds N x2 y3_l46 (fun r59 => if r59 = 0 then ((f_X6_lay_l46 b_c x2 zp_size z_got_e44 k N n46) (y3_l46 + 1) z_left_l46 z_giver_l46 z_gave_l46) else (ck (ivi y3_l46 6) (f_X2_knows N zp_size (b_c (y3_l46).toNatClampNeg) (fun r72 => if r72 = 0 then ((f_X6_lay_l46 b_c x2 zp_size z_got_e44 k N n46) (y3_l46 + 1) z_left_l46 z_giver_l46 z_gave_l46) else (ck (ivi y3_l46 6) (ck (ivi y3_l46 6) (ck (ivi y3_l46 6) (ck (ivi (b_c (y3_l46).toNatClampNeg) 6) ((f_X6_lay_l46 b_c x2 zp_size z_got_e44 k N n46) (y3_l46 + 1) (z_left_l46 ||| ((1 : Int32) <<< (y3_l46 &&& 31))) (upd z_giver_l46 (b_c (y3_l46).toNatClampNeg).toNatClampNeg y3_l46) (upd z_gave_l46 (y3_l46).toNatClampNeg (b_c (y3_l46).toNatClampNeg))))))))))))
def f_X6_lay_e44 {ρ : Type} (b_c : Nat → Int32) (x2 : Int32) (z_gave : Nat → Int32) (zp_size : Int32) (k : Int32 → Int32 → Int32 → (Nat → Int32) → (Nat → Int32) → (Nat → Int32) → Option ρ) (N : Nat) (z_giver_e44 : Nat → Int32) (z_got_e44 : Nat → Int32) : Option ρ := f_X6_lay_l46 b_c x2 zp_size z_got_e44 k N N 0 0 z_giver_e44 z_gave
def f_X6_lay_l17 {ρ : Type} (k44 : (Nat → Int32) → (Nat → Int32) → Option ρ) : Nat → Int32 → (Nat → Int32) → (Nat → Int32) → Option ρ
  | 0, _, _, _ => none
  | n17 + 1, y3_l17, z_giver_l17, z_got_l17 => if 6 ≤ y3_l17 then (k44 z_giver_l17 z_got_l17) else (ck (ivi y3_l17 6) (ck (ivi y3_l17 6) ((f_X6_lay_l17 k44 n17) (y3_l17 + 1) (upd z_giver_l17 (y3_l17).toNatClampNeg (-1)) (upd z_got_l17 (y3_l17).toNatClampNeg (-9)))))
def f_X6_lay {ρ : Type} (N : Nat) (z_giver : Nat → Int32) (z_got : Nat → Int32) (zp_size : Int32) (z_gave : Nat → Int32) (b_c : Nat → Int32) (x2 : Int32) (k : Int32 → Int32 → Int32 → (Nat → Int32) → (Nat → Int32) → (Nat → Int32) → Option ρ) : Option ρ := f_X6_lay_l17 (fun z_giver_e44 z_got_e44 => f_X6_lay_e44 b_c x2 z_gave zp_size k N z_giver_e44 z_got_e44) N 0 z_giver z_got
abbrev w_X6_lay (cI cZ cQ cW : ClassId) (z_o : Nat) (zp_o : Nat) (z_gave_a : Nat) (z_giver_a : Nat) (z_aims_a : Nat) (z_got_a : Nat) (z_lumps_a : Nat) (zp_weight_a : Nat) (zp_nights_a : Nat) (zp_wanted_a : Nat) (zp_wantCount_a : Nat) (zp_wantBits_a : Nat) (z_left : Int32) (z_lumpCount : Int32) (z_ringed : Int32) (z_giver : Nat → Int32) (z_got : Nat → Int32) (zp_size : Int32) (zp_law : Int32) (z_gave : Nat → Int32) : va_W := [(z_o, .inr (6, [.ref zp_o, .ref z_gave_a, .ref z_giver_a, .ref z_aims_a, .int z_left, .ref z_got_a, .ref z_lumps_a, .int z_lumpCount, .int z_ringed])), (z_giver_a, .inl (cI, 6, .inl z_giver)), (z_got_a, .inl (cI, 6, .inl z_got)), (zp_o, .inr (2, [.ref zp_weight_a, .ref zp_nights_a, .ref zp_wanted_a, .ref zp_wantCount_a, .ref zp_wantBits_a, .int zp_size, .int zp_law])), (z_gave_a, .inl (cI, 6, .inl z_gave))]
abbrev rm_X6_lay : Room := { frames := 1, cells := 0, slots := 0, locals := 21 }
set_option maxHeartbeats 4000000 in
set_option maxRecDepth 100000 in
theorem c_X6_lay (l : Launch) (dC : Nat → ClassId) (dI : Nat → Nat → Nat) (cI cZ cQ cW : ClassId) (z_o : Nat) (zp_o : Nat) (z_gave_a : Nat) (z_giver_a : Nat) (z_aims_a : Nat) (z_got_a : Nat) (z_lumps_a : Nat) (zp_weight_a : Nat) (zp_nights_a : Nat) (zp_wanted_a : Nat) (zp_wantCount_a : Nat) (zp_wantBits_a : Nat) (b_a : Nat) (z_left : Int32) (z_lumpCount : Int32) (z_ringed : Int32) (z_giver : Nat → Int32) (z_got : Nat → Int32) (zp_size : Int32) (zp_law : Int32) (z_gave : Nat → Int32) (b_c : Nat → Int32) (x2 : Int32) {ρ : Type} (N : Nat) (k : Int32 → Int32 → Int32 → (Nat → Int32) → (Nat → Int32) → (Nat → Int32) → Option ρ) (res : ρ) (h : f_X6_lay N z_giver z_got zp_size z_gave b_c x2 k = some res) : Cv l yX6_lay (WS yX6_lay cX6_lay 4 none) rm_X6_lay (dC, dI) (tysG cI cZ cQ cW) (OE b_a b_c) [.ref z_o, .ref b_a, .int x2] (w_X6_lay cI cZ cQ cW z_o zp_o z_gave_a z_giver_a z_aims_a z_got_a z_lumps_a zp_weight_a zp_nights_a zp_wanted_a zp_wantCount_a zp_wantBits_a z_left z_lumpCount z_ringed z_giver z_got zp_size zp_law z_gave) (fun (u : Int32 × Int32 × Int32 × (Nat → Int32) × (Nat → Int32) × (Nat → Int32)) => (w_X6_lay cI cZ cQ cW z_o zp_o z_gave_a z_giver_a z_aims_a z_got_a z_lumps_a zp_weight_a zp_nights_a zp_wanted_a zp_wantCount_a zp_wantBits_a u.1 u.2.1 u.2.2.1 u.2.2.2.1 u.2.2.2.2.1 zp_size zp_law u.2.2.2.2.2)) (fun u => k u.1 u.2.1 u.2.2.1 u.2.2.2.1 u.2.2.2.2.1 u.2.2.2.2.2 = some res) := by
  refine Cv.of (cc := cX6_lay) (n := 4) (by decide +kernel) (Nat.le_of_ble_eq_true rfl) ?_
  intro p e s m args below meth c A ls Q B hW hE hS hl hQ
  have hx := B.1
  have hb := B.2.1
  have hl : lv_has ls 4 [(0, .ref z_o), (1, .ref b_a), (2, .int x2)] := hl
  unfold f_X6_lay at h
  refine lv_aload_n (pc := 0) hx hb (tb_at tk_X6_lay 0 rfl) rfl (lv_at hl 0 rfl) ?_
  refine lv_iconst (pc := 1) (v := 0) hx hb (tb_at tk_X6_lay 1 rfl) (by decide) ?_
  refine k_put (pc := 2) (T := TX6) B inG6 tyX6 tyX6_ok nmX6 hW hS 0 rfl rfl 4 (by decide) q_f_X6_35 rfl rfl rfl rfl (Nat.le_of_ble_eq_true rfl) (tb_at tk_X6_lay 2 rfl) (w_X6_lay cI cZ cQ cW z_o zp_o z_gave_a z_giver_a z_aims_a z_got_a z_lumps_a zp_weight_a zp_nights_a zp_wanted_a zp_wantCount_a zp_wantBits_a 0 z_lumpCount z_ringed z_giver z_got zp_size zp_law z_gave) rfl (fun H locs hW hS => ?_)
  refine lv_aload_n (pc := 5) hx hb (tb_at tk_X6_lay 3 rfl) rfl (lv_at hl 0 rfl) ?_
  refine lv_iconst (pc := 6) (v := 0) hx hb (tb_at tk_X6_lay 4 rfl) (by decide) ?_
  refine k_put (pc := 7) (T := TX6) B inG6 tyX6 tyX6_ok nmX6 hW hS 0 rfl rfl 7 (by decide) q_f_X6_50 rfl rfl rfl rfl (Nat.le_of_ble_eq_true rfl) (tb_at tk_X6_lay 5 rfl) (w_X6_lay cI cZ cQ cW z_o zp_o z_gave_a z_giver_a z_aims_a z_got_a z_lumps_a zp_weight_a zp_nights_a zp_wanted_a zp_wantCount_a zp_wantBits_a 0 0 z_ringed z_giver z_got zp_size zp_law z_gave) rfl (fun H locs hW hS => ?_)
  refine lv_aload_n (pc := 10) hx hb (tb_at tk_X6_lay 6 rfl) rfl (lv_at hl 0 rfl) ?_
  refine lv_iconst (pc := 11) (v := 0) hx hb (tb_at tk_X6_lay 7 rfl) (by decide) ?_
  refine k_put (pc := 12) (T := TX6) B inG6 tyX6 tyX6_ok nmX6 hW hS 0 rfl rfl 8 (by decide) q_f_X6_53 rfl rfl rfl rfl (Nat.le_of_ble_eq_true rfl) (tb_at tk_X6_lay 8 rfl) (w_X6_lay cI cZ cQ cW z_o zp_o z_gave_a z_giver_a z_aims_a z_got_a z_lumps_a zp_weight_a zp_nights_a zp_wanted_a zp_wantCount_a zp_wantBits_a 0 0 0 z_giver z_got zp_size zp_law z_gave) rfl (fun H locs hW hS => ?_)
  refine lv_iconst (pc := 15) (v := 0) hx hb (tb_at tk_X6_lay 9 rfl) (by decide) ?_
  refine lv_istore_n (pc := 16) (lv' := [(3, .int 0), (0, .ref z_o), (1, .ref b_a), (2, .int x2)]) hx hb (tb_at tk_X6_lay 10 rfl) rfl hl (by decide) rfl (fun ls hl => ?_)
  have w44 : ∀ (z_giver_e44 : Nat → Int32) (z_got_e44 : Nat → Int32) (H : Heap) (locs : List Loc) (ls : Array Slot), f_X6_lay_e44 b_c x2 z_gave zp_size k N z_giver_e44 z_got_e44 = some res → PD (dC, dI) A (w_X6_lay cI cZ cQ cW z_o zp_o z_gave_a z_giver_a z_aims_a z_got_a z_lumps_a zp_weight_a zp_nights_a zp_wanted_a zp_wantCount_a zp_wantBits_a 0 0 0 z_giver_e44 z_got_e44 zp_size zp_law z_gave) H → va_S A s.heap H locs → lv_has ls 4 [(0, .ref z_o), (1, .ref b_a), (2, .int x2)] → W p l e rm_X6_lay s m args below meth c H locs 0 0 Q (F0 m 44 ls []) := by
    intro z_giver_e44 z_got_e44 H locs ls h hW hS hl
    unfold f_X6_lay_e44 at h
    refine lv_iconst (pc := 44) (v := 0) hx hb (tb_at tk_X6_lay 26 rfl) (by decide) ?_
    refine lv_istore_n (pc := 45) (lv' := [(3, .int 0), (0, .ref z_o), (1, .ref b_a), (2, .int x2)]) hx hb (tb_at tk_X6_lay 27 rfl) rfl hl (by decide) rfl (fun ls hl => ?_)
    have w46 : ∀ (n : Nat), ∀ (y3_l46 : Int32) (z_left_l46 : Int32) (z_giver_l46 : Nat → Int32) (z_gave_l46 : Nat → Int32) (H : Heap) (locs : List Loc) (ls : Array Slot), f_X6_lay_l46 b_c x2 zp_size z_got_e44 k N n y3_l46 z_left_l46 z_giver_l46 z_gave_l46 = some res → PD (dC, dI) A (w_X6_lay cI cZ cQ cW z_o zp_o z_gave_a z_giver_a z_aims_a z_got_a z_lumps_a zp_weight_a zp_nights_a zp_wanted_a zp_wantCount_a zp_wantBits_a z_left_l46 0 0 z_giver_l46 z_got_e44 zp_size zp_law z_gave_l46) H → va_S A s.heap H locs → lv_has ls 4 [(0, .ref z_o), (1, .ref b_a), (2, .int x2), (3, .int y3_l46)] → W p l e rm_X6_lay s m args below meth c H locs 0 0 Q (F0 m 46 ls []) := by
      intro n
      induction n with
      | zero => intro y3_l46 z_left_l46 z_giver_l46 z_gave_l46 H locs ls h; exact no_n h
      | succ n46 ih46 =>
        intro y3_l46 z_left_l46 z_giver_l46 z_gave_l46 H locs ls h hW hS hl
        rw [f_X6_lay_l46] at h
        refine lv_iload_n (pc := 46) hx hb (tb_at tk_X6_lay 28 rfl) rfl (lv_at hl 3 rfl) ?_
        refine lv_aload_n (pc := 47) hx hb (tb_at tk_X6_lay 29 rfl) rfl (lv_at hl 0 rfl) ?_
        refine k_get (pc := 48) (v := .ref zp_o) (T := TX6) B inG6 hW 0 rfl rfl 0 (by decide) q_f_X6_27 rfl rfl (tb_at tk_X6_lay 30 rfl) ?_
        refine k_get (pc := 51) (v := .int zp_size) (T := TX2) B inG2 hW 3 rfl rfl 5 (by decide) q_f_X6_56 rfl rfl (tb_at tk_X6_lay 31 rfl) ?_
        refine lv_icmp_ge (pc := 54) (tgt := 114) hx hb (tb_at tk_X6_lay 32 rfl) (by decide) (fun cc => ?_) (fun cc => ?_)
        · have h := it_t cc h
          exact hQ (z_left_l46, 0, 0, z_giver_l46, z_got_e44, z_gave_l46) _ _ _ 114 h hW hS (tb_at tk_X6_lay 68 rfl)
        · have h := it_f cc h
          refine lv_iload_n (pc := 57) hx hb (tb_at tk_X6_lay 33 rfl) rfl (lv_at hl 2 rfl) ?_
          refine lv_iload_n (pc := 58) hx hb (tb_at tk_X6_lay 34 rfl) rfl (lv_at hl 3 rfl) ?_
          refine k_call0 (pc := 59) B (k_runNi (rest := []) (host := RX7) B (c_X7_holds l dC dI cI cZ cQ cW   x2 y3_l46 N _ res h) E0_st (fun _ _ _ => trivial) q_c_X7_holds q_h_X6_61 q_t_X7_holds q_n_X7 hd_X7_holds ⟨rfl, rfl⟩ ⟨Nat.le_of_ble_eq_true rfl, Nat.le_of_ble_eq_true rfl⟩ hW [] rfl (by decide +kernel) rfl hl.1 rfl (Nat.le_of_ble_eq_true rfl) (tb_at tk_X6_lay 35 rfl) ⟨Nat.zero_le _, Nat.zero_le _⟩) hW hS (fun r59 u H locs h hW hS => ?_)
          refine lv_if_eq (pc := 62) (tgt := 108) hx hb (tb_at tk_X6_lay 36 rfl) (by decide) (fun cc => ?_) (fun cc => ?_)
          · have h := it_t cc h
            refine lv_iinc (pc := 108) (v := y3_l46 + 1) (lv' := [(3, .int (y3_l46 + 1)), (0, .ref z_o), (1, .ref b_a), (2, .int x2)]) hx hb (tb_at tk_X6_lay 66 rfl) hl (k := 3) rfl rfl (by decide) rfl (fun ls hl => ?_)
            refine lv_goto (pc := 111) (tgt := 46) hx hb (tb_at tk_X6_lay 67 rfl) (by decide) ?_
            exact ih46 (y3_l46 + 1) z_left_l46 z_giver_l46 z_gave_l46 _ _ _ h hW hS (lv_sub hl [1, 2, 3, 0] rfl)
          · have h := it_f cc h
            refine lv_aload_n (pc := 65) hx hb (tb_at tk_X6_lay 37 rfl) rfl (lv_at hl 0 rfl) ?_
            refine k_get (pc := 66) (v := .ref zp_o) (T := TX6) B inG6 hW 0 rfl rfl 0 (by decide) q_f_X6_27 rfl rfl (tb_at tk_X6_lay 38 rfl) ?_
            refine lv_aload_n (pc := 69) hx hb (tb_at tk_X6_lay 39 rfl) rfl (lv_at hl 1 rfl) ?_
            refine lv_iload_n (pc := 70) hx hb (tb_at tk_X6_lay 40 rfl) rfl (lv_at hl 3 rfl) ?_
            have ii := ivi_in (ck_l h)
            have h := ck_r h
            refine k_told (pc := 71) B hE hS ii (tb_at tk_X6_lay 41 rfl) ?_
            refine k_calli (pc := 72) B (k_runVi (rest := []) (C := RX2) B (c_X2_knows l dC dI cI cZ cQ cW zp_o zp_weight_a zp_nights_a zp_wanted_a zp_wantCount_a zp_wantBits_a zp_size zp_law (b_c (y3_l46).toNatClampNeg) N _ res h) E0_st (fun _ _ _ => trivial) q_c_X2_knows q_m_X6_65 q_i_X2_knows q_s_X2_knows q_n_X2 hd_X2_knows ⟨rfl, rfl⟩ ⟨Nat.le_of_ble_eq_true rfl, Nat.le_of_ble_eq_true rfl⟩ hW [3] rfl (by decide +kernel) (q0 := 0) (ci := 2) rfl rfl rfl hl.1 rfl (Nat.le_of_ble_eq_true rfl) (tb_at tk_X6_lay 42 rfl) ⟨Nat.zero_le _, Nat.zero_le _⟩) hW hS [3] rfl [zp_o] rfl (fun _ => rfl) [none, none, none, some 0, none] (by decide +kernel) (fun _ => (w_X6_lay cI cZ cQ cW z_o zp_o z_gave_a z_giver_a z_aims_a z_got_a z_lumps_a zp_weight_a zp_nights_a zp_wanted_a zp_wantCount_a zp_wantBits_a z_left_l46 0 0 z_giver_l46 z_got_e44 zp_size zp_law z_gave_l46)) (fun _ => rfl) (fun r72 u H locs h hW hS => ?_)
            have hW : PD (dC, dI) A (w_X6_lay cI cZ cQ cW z_o zp_o z_gave_a z_giver_a z_aims_a z_got_a z_lumps_a zp_weight_a zp_nights_a zp_wanted_a zp_wantCount_a zp_wantBits_a z_left_l46 0 0 z_giver_l46 z_got_e44 zp_size zp_law z_gave_l46) H := hW
            refine lv_if_eq (pc := 75) (tgt := 108) hx hb (tb_at tk_X6_lay 43 rfl) (by decide) (fun cc => ?_) (fun cc => ?_)
            · have h := it_t cc h
              refine lv_iinc (pc := 108) (v := y3_l46 + 1) (lv' := [(3, .int (y3_l46 + 1)), (0, .ref z_o), (1, .ref b_a), (2, .int x2)]) hx hb (tb_at tk_X6_lay 66 rfl) hl (k := 3) rfl rfl (by decide) rfl (fun ls hl => ?_)
              refine lv_goto (pc := 111) (tgt := 46) hx hb (tb_at tk_X6_lay 67 rfl) (by decide) ?_
              exact ih46 (y3_l46 + 1) z_left_l46 z_giver_l46 z_gave_l46 _ _ _ h hW hS (lv_sub hl [1, 2, 3, 0] rfl)
            · have h := it_f cc h
              refine lv_aload_n (pc := 78) hx hb (tb_at tk_X6_lay 44 rfl) rfl (lv_at hl 0 rfl) ?_
              refine lv_dup (pc := 79) hx hb (tb_at tk_X6_lay 45 rfl) rfl ?_
              refine k_get (pc := 80) (v := .int z_left_l46) (T := TX6) B inG6 hW 0 rfl rfl 4 (by decide) q_f_X6_35 rfl rfl (tb_at tk_X6_lay 46 rfl) ?_
              refine lv_iconst (pc := 83) (v := 1) hx hb (tb_at tk_X6_lay 47 rfl) (by decide) ?_
              refine lv_iload_n (pc := 84) hx hb (tb_at tk_X6_lay 48 rfl) rfl (lv_at hl 3 rfl) ?_
              refine lv_ishl (pc := 85) hx hb (tb_at tk_X6_lay 49 rfl) ?_
              refine lv_ior (pc := 86) hx hb (tb_at tk_X6_lay 50 rfl) ?_
              refine k_put (pc := 87) (T := TX6) B inG6 tyX6 tyX6_ok nmX6 hW hS 0 rfl rfl 4 (by decide) q_f_X6_35 rfl rfl rfl rfl (Nat.le_of_ble_eq_true rfl) (tb_at tk_X6_lay 51 rfl) (w_X6_lay cI cZ cQ cW z_o zp_o z_gave_a z_giver_a z_aims_a z_got_a z_lumps_a zp_weight_a zp_nights_a zp_wanted_a zp_wantCount_a zp_wantBits_a (z_left_l46 ||| ((1 : Int32) <<< (y3_l46 &&& 31))) 0 0 z_giver_l46 z_got_e44 zp_size zp_law z_gave_l46) rfl (fun H locs hW hS => ?_)
              refine lv_aload_n (pc := 90) hx hb (tb_at tk_X6_lay 52 rfl) rfl (lv_at hl 0 rfl) ?_
              refine k_get (pc := 91) (v := .ref z_gave_a) (T := TX6) B inG6 hW 0 rfl rfl 1 (by decide) q_f_X6_9 rfl rfl (tb_at tk_X6_lay 53 rfl) ?_
              refine lv_iload_n (pc := 94) hx hb (tb_at tk_X6_lay 54 rfl) rfl (lv_at hl 3 rfl) ?_
              refine lv_aload_n (pc := 95) hx hb (tb_at tk_X6_lay 55 rfl) rfl (lv_at hl 1 rfl) ?_
              refine lv_iload_n (pc := 96) hx hb (tb_at tk_X6_lay 56 rfl) rfl (lv_at hl 3 rfl) ?_
              have ii := ivi_in (ck_l h)
              have h := ck_r h
              refine k_told (pc := 97) B hE hS ii (tb_at tk_X6_lay 57 rfl) ?_
              have ii := ivi_in (ck_l h)
              have h := ck_r h
              refine k_iast (pc := 98) B hW hS 4 0 rfl rfl ii (tb_at tk_X6_lay 58 rfl) (w_X6_lay cI cZ cQ cW z_o zp_o z_gave_a z_giver_a z_aims_a z_got_a z_lumps_a zp_weight_a zp_nights_a zp_wanted_a zp_wantCount_a zp_wantBits_a (z_left_l46 ||| ((1 : Int32) <<< (y3_l46 &&& 31))) 0 0 z_giver_l46 z_got_e44 zp_size zp_law (upd z_gave_l46 (y3_l46).toNatClampNeg (b_c (y3_l46).toNatClampNeg))) rfl (fun H locs hW hS => ?_)
              refine lv_aload_n (pc := 99) hx hb (tb_at tk_X6_lay 59 rfl) rfl (lv_at hl 0 rfl) ?_
              refine k_get (pc := 100) (v := .ref z_giver_a) (T := TX6) B inG6 hW 0 rfl rfl 2 (by decide) q_f_X6_15 rfl rfl (tb_at tk_X6_lay 60 rfl) ?_
              refine lv_aload_n (pc := 103) hx hb (tb_at tk_X6_lay 61 rfl) rfl (lv_at hl 1 rfl) ?_
              refine lv_iload_n (pc := 104) hx hb (tb_at tk_X6_lay 62 rfl) rfl (lv_at hl 3 rfl) ?_
              have ii := ivi_in (ck_l h)
              have h := ck_r h
              refine k_told (pc := 105) B hE hS ii (tb_at tk_X6_lay 63 rfl) ?_
              refine lv_iload_n (pc := 106) hx hb (tb_at tk_X6_lay 64 rfl) rfl (lv_at hl 3 rfl) ?_
              have ii := ivi_in (ck_l h)
              have h := ck_r h
              refine k_iast (pc := 107) B hW hS 1 0 rfl rfl ii (tb_at tk_X6_lay 65 rfl) (w_X6_lay cI cZ cQ cW z_o zp_o z_gave_a z_giver_a z_aims_a z_got_a z_lumps_a zp_weight_a zp_nights_a zp_wanted_a zp_wantCount_a zp_wantBits_a (z_left_l46 ||| ((1 : Int32) <<< (y3_l46 &&& 31))) 0 0 (upd z_giver_l46 (b_c (y3_l46).toNatClampNeg).toNatClampNeg y3_l46) z_got_e44 zp_size zp_law (upd z_gave_l46 (y3_l46).toNatClampNeg (b_c (y3_l46).toNatClampNeg))) rfl (fun H locs hW hS => ?_)
              refine lv_iinc (pc := 108) (v := y3_l46 + 1) (lv' := [(3, .int (y3_l46 + 1)), (0, .ref z_o), (1, .ref b_a), (2, .int x2)]) hx hb (tb_at tk_X6_lay 66 rfl) hl (k := 3) rfl rfl (by decide) rfl (fun ls hl => ?_)
              refine lv_goto (pc := 111) (tgt := 46) hx hb (tb_at tk_X6_lay 67 rfl) (by decide) ?_
              exact ih46 (y3_l46 + 1) (z_left_l46 ||| ((1 : Int32) <<< (y3_l46 &&& 31))) (upd z_giver_l46 (b_c (y3_l46).toNatClampNeg).toNatClampNeg y3_l46) (upd z_gave_l46 (y3_l46).toNatClampNeg (b_c (y3_l46).toNatClampNeg)) _ _ _ h hW hS (lv_sub hl [1, 2, 3, 0] rfl)
    exact w46 N 0 0 z_giver_e44 z_gave _ _ _ h hW hS (lv_sub hl [1, 2, 3, 0] rfl)
  have w17 : ∀ (n : Nat), ∀ (y3_l17 : Int32) (z_giver_l17 : Nat → Int32) (z_got_l17 : Nat → Int32) (H : Heap) (locs : List Loc) (ls : Array Slot), f_X6_lay_l17 (fun z_giver_e44 z_got_e44 => f_X6_lay_e44 b_c x2 z_gave zp_size k N z_giver_e44 z_got_e44) n y3_l17 z_giver_l17 z_got_l17 = some res → PD (dC, dI) A (w_X6_lay cI cZ cQ cW z_o zp_o z_gave_a z_giver_a z_aims_a z_got_a z_lumps_a zp_weight_a zp_nights_a zp_wanted_a zp_wantCount_a zp_wantBits_a 0 0 0 z_giver_l17 z_got_l17 zp_size zp_law z_gave) H → va_S A s.heap H locs → lv_has ls 4 [(0, .ref z_o), (1, .ref b_a), (2, .int x2), (3, .int y3_l17)] → W p l e rm_X6_lay s m args below meth c H locs 0 0 Q (F0 m 17 ls []) := by
    intro n
    induction n with
    | zero => intro y3_l17 z_giver_l17 z_got_l17 H locs ls h; exact no_n h
    | succ n17 ih17 =>
      intro y3_l17 z_giver_l17 z_got_l17 H locs ls h hW hS hl
      rw [f_X6_lay_l17] at h
      refine lv_iload_n (pc := 17) hx hb (tb_at tk_X6_lay 11 rfl) rfl (lv_at hl 3 rfl) ?_
      refine lv_bipush (pc := 18) (v := 6) hx hb (tb_at tk_X6_lay 12 rfl) (by decide) ?_
      refine lv_icmp_ge (pc := 20) (tgt := 44) hx hb (tb_at tk_X6_lay 13 rfl) (by decide) (fun cc => ?_) (fun cc => ?_)
      · have h := it_t cc h
        exact w44 z_giver_l17 z_got_l17 _ _ _ h hW hS (lv_sub hl [0, 1, 2] rfl)
      · have h := it_f cc h
        refine lv_aload_n (pc := 23) hx hb (tb_at tk_X6_lay 14 rfl) rfl (lv_at hl 0 rfl) ?_
        refine k_get (pc := 24) (v := .ref z_giver_a) (T := TX6) B inG6 hW 0 rfl rfl 2 (by decide) q_f_X6_15 rfl rfl (tb_at tk_X6_lay 15 rfl) ?_
        refine lv_iload_n (pc := 27) hx hb (tb_at tk_X6_lay 16 rfl) rfl (lv_at hl 3 rfl) ?_
        refine lv_iconst (pc := 28) (v := (-1)) hx hb (tb_at tk_X6_lay 17 rfl) (by decide) ?_
        have ii := ivi_in (ck_l h)
        have h := ck_r h
        refine k_iast (pc := 29) B hW hS 1 0 rfl rfl ii (tb_at tk_X6_lay 18 rfl) (w_X6_lay cI cZ cQ cW z_o zp_o z_gave_a z_giver_a z_aims_a z_got_a z_lumps_a zp_weight_a zp_nights_a zp_wanted_a zp_wantCount_a zp_wantBits_a 0 0 0 (upd z_giver_l17 (y3_l17).toNatClampNeg (-1)) z_got_l17 zp_size zp_law z_gave) rfl (fun H locs hW hS => ?_)
        refine lv_aload_n (pc := 30) hx hb (tb_at tk_X6_lay 19 rfl) rfl (lv_at hl 0 rfl) ?_
        refine k_get (pc := 31) (v := .ref z_got_a) (T := TX6) B inG6 hW 0 rfl rfl 5 (by decide) q_f_X6_21 rfl rfl (tb_at tk_X6_lay 20 rfl) ?_
        refine lv_iload_n (pc := 34) hx hb (tb_at tk_X6_lay 21 rfl) rfl (lv_at hl 3 rfl) ?_
        refine lv_bipush (pc := 35) (v := (-9)) hx hb (tb_at tk_X6_lay 22 rfl) (by decide) ?_
        have ii := ivi_in (ck_l h)
        have h := ck_r h
        refine k_iast (pc := 37) B hW hS 2 0 rfl rfl ii (tb_at tk_X6_lay 23 rfl) (w_X6_lay cI cZ cQ cW z_o zp_o z_gave_a z_giver_a z_aims_a z_got_a z_lumps_a zp_weight_a zp_nights_a zp_wanted_a zp_wantCount_a zp_wantBits_a 0 0 0 (upd z_giver_l17 (y3_l17).toNatClampNeg (-1)) (upd z_got_l17 (y3_l17).toNatClampNeg (-9)) zp_size zp_law z_gave) rfl (fun H locs hW hS => ?_)
        refine lv_iinc (pc := 38) (v := y3_l17 + 1) (lv' := [(3, .int (y3_l17 + 1)), (0, .ref z_o), (1, .ref b_a), (2, .int x2)]) hx hb (tb_at tk_X6_lay 24 rfl) hl (k := 3) rfl rfl (by decide) rfl (fun ls hl => ?_)
        refine lv_goto (pc := 41) (tgt := 17) hx hb (tb_at tk_X6_lay 25 rfl) (by decide) ?_
        exact ih17 (y3_l17 + 1) (upd z_giver_l17 (y3_l17).toNatClampNeg (-1)) (upd z_got_l17 (y3_l17).toNatClampNeg (-9)) _ _ _ h hW hS (lv_sub hl [1, 2, 3, 0] rfl)
  exact w17 N 0 z_giver z_got _ _ _ h hW hS (lv_sub hl [1, 2, 3, 0] rfl)
def f_X6_distance {ρ : Type} (N : Nat) (zp_wanted : Nat → Nat → Int32) (zp_weight : Nat → Int32) (z_gave : Nat → Int32) (x1 : Int32) (x2 : Int32) (x3 : Int32) (k : Int32 → Option ρ) : Option ρ := ck (ivi x1 6) (ck (ivi x2 4) (if x3 = 0 then (k x2) else (if x3 = 1 then (ck (ivi (zp_wanted (x1).toNatClampNeg (x2).toNatClampNeg) 6) (ck (ivi x1 6) (ck (ivi (z_gave (x1).toNatClampNeg) 6) (k (if 0 ≤ ((zp_weight (zp_wanted (x1).toNatClampNeg (x2).toNatClampNeg).toNatClampNeg) - (zp_weight (z_gave (x1).toNatClampNeg).toNatClampNeg)) then ((zp_weight (zp_wanted (x1).toNatClampNeg (x2).toNatClampNeg).toNatClampNeg) - (zp_weight (z_gave (x1).toNatClampNeg).toNatClampNeg)) else 0 - ((zp_weight (zp_wanted (x1).toNatClampNeg (x2).toNatClampNeg).toNatClampNeg) - (zp_weight (z_gave (x1).toNatClampNeg).toNatClampNeg))))))) else (k (zp_wanted (x1).toNatClampNeg (x2).toNatClampNeg)))))
abbrev w_X6_distance (cI cZ cQ cW : ClassId) (z_o : Nat) (zp_o : Nat) (z_gave_a : Nat) (z_giver_a : Nat) (z_aims_a : Nat) (z_got_a : Nat) (z_lumps_a : Nat) (zp_weight_a : Nat) (zp_nights_a : Nat) (zp_wanted_a : Nat) (zp_wantCount_a : Nat) (zp_wantBits_a : Nat) (zp_wanted_r : Nat → Nat) (z_left : Int32) (z_lumpCount : Int32) (z_ringed : Int32) (zp_size : Int32) (zp_law : Int32) (zp_wanted : Nat → Nat → Int32) (zp_weight : Nat → Int32) (z_gave : Nat → Int32) : va_W := [(z_o, .inr (6, [.ref zp_o, .ref z_gave_a, .ref z_giver_a, .ref z_aims_a, .int z_left, .ref z_got_a, .ref z_lumps_a, .int z_lumpCount, .int z_ringed])), (zp_o, .inr (2, [.ref zp_weight_a, .ref zp_nights_a, .ref zp_wanted_a, .ref zp_wantCount_a, .ref zp_wantBits_a, .int zp_size, .int zp_law])), (zp_wanted_a, .inl (cW, 6, .inr (.inr (.inr (.inr (fun i => if i < 6 then some (zp_wanted_r i) else none)))))), (zp_wanted_r 0, .inl (cI, 4, .inl (zp_wanted 0))), (zp_wanted_r 1, .inl (cI, 4, .inl (zp_wanted 1))), (zp_wanted_r 2, .inl (cI, 4, .inl (zp_wanted 2))), (zp_wanted_r 3, .inl (cI, 4, .inl (zp_wanted 3))), (zp_wanted_r 4, .inl (cI, 4, .inl (zp_wanted 4))), (zp_wanted_r 5, .inl (cI, 4, .inl (zp_wanted 5))), (zp_weight_a, .inl (cI, 6, .inl zp_weight)), (z_gave_a, .inl (cI, 6, .inl z_gave))]
abbrev rm_X6_distance : Room := { frames := 1, cells := 0, slots := 0, locals := 21 }
set_option maxHeartbeats 4000000 in
set_option maxRecDepth 100000 in
theorem c_X6_distance (l : Launch) (dC : Nat → ClassId) (dI : Nat → Nat → Nat) (cI cZ cQ cW : ClassId) (z_o : Nat) (zp_o : Nat) (z_gave_a : Nat) (z_giver_a : Nat) (z_aims_a : Nat) (z_got_a : Nat) (z_lumps_a : Nat) (zp_weight_a : Nat) (zp_nights_a : Nat) (zp_wanted_a : Nat) (zp_wantCount_a : Nat) (zp_wantBits_a : Nat) (zp_wanted_r : Nat → Nat) (z_left : Int32) (z_lumpCount : Int32) (z_ringed : Int32) (zp_size : Int32) (zp_law : Int32) (zp_wanted : Nat → Nat → Int32) (zp_weight : Nat → Int32) (z_gave : Nat → Int32) (x1 : Int32) (x2 : Int32) (x3 : Int32) {ρ : Type} (N : Nat) (k : Int32 → Option ρ) (res : ρ) (h : f_X6_distance N zp_wanted zp_weight z_gave x1 x2 x3 k = some res) : Ci l yX6_distance (WS yX6_distance cX6_distance 5 (some .int)) rm_X6_distance (dC, dI) (tysG cI cZ cQ cW) E0 [.ref z_o, .int x1, .int x2, .int x3] (w_X6_distance cI cZ cQ cW z_o zp_o z_gave_a z_giver_a z_aims_a z_got_a z_lumps_a zp_weight_a zp_nights_a zp_wanted_a zp_wantCount_a zp_wantBits_a zp_wanted_r z_left z_lumpCount z_ringed zp_size zp_law zp_wanted zp_weight z_gave) (fun (_ : Unit) => (w_X6_distance cI cZ cQ cW z_o zp_o z_gave_a z_giver_a z_aims_a z_got_a z_lumps_a zp_weight_a zp_nights_a zp_wanted_a zp_wantCount_a zp_wantBits_a zp_wanted_r z_left z_lumpCount z_ringed zp_size zp_law zp_wanted zp_weight z_gave)) (fun r _ => k r = some res) := by
  refine Ci.of (cc := cX6_distance) (n := 5) (by decide +kernel) (Nat.le_of_ble_eq_true rfl) ?_
  intro p e s m args below meth c A ls Q B hW hE hS hl hQ
  have hx := B.1
  have hb := B.2.1
  have hl : lv_has ls 5 [(0, .ref z_o), (1, .int x1), (2, .int x2), (3, .int x3)] := hl
  unfold f_X6_distance at h
  refine lv_aload_n (pc := 0) hx hb (tb_at tk_X6_distance 0 rfl) rfl (lv_at hl 0 rfl) ?_
  refine k_get (pc := 1) (v := .ref zp_o) (T := TX6) B inG6 hW 0 rfl rfl 0 (by decide) q_f_X6_27 rfl rfl (tb_at tk_X6_distance 1 rfl) ?_
  refine k_get (pc := 4) (v := .ref zp_wanted_a) (T := TX2) B inG2 hW 1 rfl rfl 2 (by decide) q_f_X6_76 rfl rfl (tb_at tk_X6_distance 2 rfl) ?_
  refine lv_iload_n (pc := 7) hx hb (tb_at tk_X6_distance 3 rfl) rfl (lv_at hl 1 rfl) ?_
  have ir8 := ivi_in (ck_l h)
  have h := ck_r h
  refine k_aldr (pc := 8) (r := zp_wanted_r) B hW 2 3 rfl rfl ir8 (tb_at tk_X6_distance 4 rfl) ?_
  refine lv_iload_n (pc := 9) hx hb (tb_at tk_X6_distance 5 rfl) rfl (lv_at hl 2 rfl) ?_
  have ii := ivi_in (ck_l h)
  have h := ck_r h
  refine k_rald (pc := 10) (x := x1) (r := zp_wanted_r) (g := zp_wanted) B hW 3 0 (row6 rfl rfl rfl rfl rfl rfl) rfl ir8 ii (tb_at tk_X6_distance 6 rfl) ?_
  refine lv_istore (pc := 11) (lv' := [(4, .int (zp_wanted (x1).toNatClampNeg (x2).toNatClampNeg)), (0, .ref z_o), (1, .int x1), (2, .int x2), (3, .int x3)]) hx hb (tb_at tk_X6_distance 7 rfl) hl (by decide) rfl (fun ls hl => ?_)
  refine lv_iload_n (pc := 13) hx hb (tb_at tk_X6_distance 8 rfl) rfl (lv_at hl 4 rfl) ?_
  refine lv_if_ne (pc := 14) (tgt := 19) hx hb (tb_at tk_X6_distance 9 rfl) (by decide) (fun cc => ?_) (fun cc => ?_)
  · have h := it_f cc h
    refine lv_iload_n (pc := 19) hx hb (tb_at tk_X6_distance 12 rfl) rfl (lv_at hl 4 rfl) ?_
    refine lv_iconst (pc := 20) (v := 1) hx hb (tb_at tk_X6_distance 13 rfl) (by decide) ?_
    refine lv_icmp_ne (pc := 21) (tgt := 53) hx hb (tb_at tk_X6_distance 14 rfl) (by decide) (fun cc => ?_) (fun cc => ?_)
    · have h := it_f cc h
      refine lv_iload (pc := 53) hx hb (tb_at tk_X6_distance 31 rfl) (lv_at hl 0 rfl) ?_
      exact hQ (zp_wanted (x1).toNatClampNeg (x2).toNatClampNeg) () _ _ _ 55 rfl h hW hS (tb_at tk_X6_distance 32 rfl)
    · have h := it_t cc h
      refine lv_aload_n (pc := 24) hx hb (tb_at tk_X6_distance 15 rfl) rfl (lv_at hl 1 rfl) ?_
      refine k_get (pc := 25) (v := .ref zp_o) (T := TX6) B inG6 hW 0 rfl rfl 0 (by decide) q_f_X6_27 rfl rfl (tb_at tk_X6_distance 16 rfl) ?_
      refine k_get (pc := 28) (v := .ref zp_weight_a) (T := TX2) B inG2 hW 1 rfl rfl 0 (by decide) q_f_X6_84 rfl rfl (tb_at tk_X6_distance 17 rfl) ?_
      refine lv_iload (pc := 31) hx hb (tb_at tk_X6_distance 18 rfl) (lv_at hl 0 rfl) ?_
      have ii := ivi_in (ck_l h)
      have h := ck_r h
      refine k_iald (pc := 33) B hW 9 0 rfl rfl ii (tb_at tk_X6_distance 19 rfl) ?_
      refine lv_aload_n (pc := 34) hx hb (tb_at tk_X6_distance 20 rfl) rfl (lv_at hl 1 rfl) ?_
      refine k_get (pc := 35) (v := .ref zp_o) (T := TX6) B inG6 hW 0 rfl rfl 0 (by decide) q_f_X6_27 rfl rfl (tb_at tk_X6_distance 21 rfl) ?_
      refine k_get (pc := 38) (v := .ref zp_weight_a) (T := TX2) B inG2 hW 1 rfl rfl 0 (by decide) q_f_X6_84 rfl rfl (tb_at tk_X6_distance 22 rfl) ?_
      refine lv_aload_n (pc := 41) hx hb (tb_at tk_X6_distance 23 rfl) rfl (lv_at hl 1 rfl) ?_
      refine k_get (pc := 42) (v := .ref z_gave_a) (T := TX6) B inG6 hW 0 rfl rfl 1 (by decide) q_f_X6_9 rfl rfl (tb_at tk_X6_distance 24 rfl) ?_
      refine lv_iload_n (pc := 45) hx hb (tb_at tk_X6_distance 25 rfl) rfl (lv_at hl 2 rfl) ?_
      have ii := ivi_in (ck_l h)
      have h := ck_r h
      refine k_iald (pc := 46) B hW 10 0 rfl rfl ii (tb_at tk_X6_distance 26 rfl) ?_
      have ii := ivi_in (ck_l h)
      have h := ck_r h
      refine k_iald (pc := 47) B hW 9 0 rfl rfl ii (tb_at tk_X6_distance 27 rfl) ?_
      refine lv_isub (pc := 48) hx hb (tb_at tk_X6_distance 28 rfl) ?_
      refine va_mabs (pc := 49) hx hb (B.2.2.2.1.trans hl.1.symm) B.2.2.2.2.1 (B.2.2.2.2.2.1 _ q_m_X6_87) (B.2.2.2.2.2.1 _ q_t_J9_abs_0f7a4) (B.2.2.2.2.2.1 _ q_n_J9) (B.2.2.2.2.2.1 _ q_c_J9_abs_0f7a4) (Nat.le_of_ble_eq_true rfl) (Nat.le_of_ble_eq_true rfl) (Nat.zero_le _) (Nat.zero_le _) (tb_at tk_X6_distance 29 rfl) ?_
      exact hQ (if 0 ≤ ((zp_weight (zp_wanted (x1).toNatClampNeg (x2).toNatClampNeg).toNatClampNeg) - (zp_weight (z_gave (x1).toNatClampNeg).toNatClampNeg)) then ((zp_weight (zp_wanted (x1).toNatClampNeg (x2).toNatClampNeg).toNatClampNeg) - (zp_weight (z_gave (x1).toNatClampNeg).toNatClampNeg)) else 0 - ((zp_weight (zp_wanted (x1).toNatClampNeg (x2).toNatClampNeg).toNatClampNeg) - (zp_weight (z_gave (x1).toNatClampNeg).toNatClampNeg))) () _ _ _ 52 rfl h hW hS (tb_at tk_X6_distance 30 rfl)
  · have h := it_t cc h
    refine lv_iload_n (pc := 17) hx hb (tb_at tk_X6_distance 10 rfl) rfl (lv_at hl 3 rfl) ?_
    exact hQ x2 () _ _ _ 18 rfl h hW hS (tb_at tk_X6_distance 11 rfl)
def f_X6_aimOf_j72 {ρ : Type} (x1 : Int32) (zp_wanted : Nat → Nat → Int32) (z_giver : Nat → Int32) (y5_l8 : Int32) (r55 : Int32) (kb8 : Int32 → Int32 → Int32 → Option ρ) : Option ρ := ck (ivi (zp_wanted (x1).toNatClampNeg (y5_l8).toNatClampNeg) 6) (kb8 (z_giver (zp_wanted (x1).toNatClampNeg (y5_l8).toNatClampNeg).toNatClampNeg) r55 (y5_l8 + 1))
def f_X6_aimOf_l8 {ρ : Type} (x1 : Int32) (x2 : Int32) (zp_wantCount : Nat → Int32) (zp_wanted : Nat → Nat → Int32) (z_giver : Nat → Int32) (zp_weight : Nat → Int32) (z_gave : Nat → Int32) (k : Int32 → Option ρ) (N : Nat) : Nat → Int32 → Int32 → Int32 → Option ρ
  | 0, _, _, _ => none
  | n8 + 1, y3_l8, y4_l8, y5_l8 => ck (ivi x1 6) (if (zp_wantCount (x1).toNatClampNeg) ≤ y5_l8 then (k y3_l8) else (ck (ivi x1 6) (ck (ivi y5_l8 4) (ck (ivi (zp_wanted (x1).toNatClampNeg (y5_l8).toNatClampNeg) 6) (if (z_giver (zp_wanted (x1).toNatClampNeg (y5_l8).toNatClampNeg).toNatClampNeg) = (-1) then ((f_X6_aimOf_l8 x1 x2 zp_wantCount zp_wanted z_giver zp_weight z_gave k N n8) y3_l8 y4_l8 (y5_l8 + 1)) else (f_X6_distance N zp_wanted zp_weight z_gave x1 y5_l8 x2 (fun r55 => if y3_l8 = (-1) then (f_X6_aimOf_j72 x1 zp_wanted z_giver y5_l8 r55 (f_X6_aimOf_l8 x1 x2 zp_wantCount zp_wanted z_giver zp_weight z_gave k N n8) ) else (if y4_l8 ≤ r55 then ((f_X6_aimOf_l8 x1 x2 zp_wantCount zp_wanted z_giver zp_weight z_gave k N n8) y3_l8 y4_l8 (y5_l8 + 1)) else (f_X6_aimOf_j72 x1 zp_wanted z_giver y5_l8 r55 (f_X6_aimOf_l8 x1 x2 zp_wantCount zp_wanted z_giver zp_weight z_gave k N n8) )))))))))
def f_X6_aimOf {ρ : Type} (N : Nat) (zp_wantCount : Nat → Int32) (zp_wanted : Nat → Nat → Int32) (z_giver : Nat → Int32) (zp_weight : Nat → Int32) (z_gave : Nat → Int32) (x1 : Int32) (x2 : Int32) (k : Int32 → Option ρ) : Option ρ := f_X6_aimOf_l8 x1 x2 zp_wantCount zp_wanted z_giver zp_weight z_gave k N N (-1) 0 0
abbrev w_X6_aimOf (cI cZ cQ cW : ClassId) (z_o : Nat) (zp_o : Nat) (z_gave_a : Nat) (z_giver_a : Nat) (z_aims_a : Nat) (z_got_a : Nat) (z_lumps_a : Nat) (zp_weight_a : Nat) (zp_nights_a : Nat) (zp_wanted_a : Nat) (zp_wantCount_a : Nat) (zp_wantBits_a : Nat) (zp_wanted_r : Nat → Nat) (z_left : Int32) (z_lumpCount : Int32) (z_ringed : Int32) (zp_size : Int32) (zp_law : Int32) (zp_wantCount : Nat → Int32) (zp_wanted : Nat → Nat → Int32) (z_giver : Nat → Int32) (zp_weight : Nat → Int32) (z_gave : Nat → Int32) : va_W := [(z_o, .inr (6, [.ref zp_o, .ref z_gave_a, .ref z_giver_a, .ref z_aims_a, .int z_left, .ref z_got_a, .ref z_lumps_a, .int z_lumpCount, .int z_ringed])), (zp_o, .inr (2, [.ref zp_weight_a, .ref zp_nights_a, .ref zp_wanted_a, .ref zp_wantCount_a, .ref zp_wantBits_a, .int zp_size, .int zp_law])), (zp_wantCount_a, .inl (cI, 6, .inl zp_wantCount)), (zp_wanted_a, .inl (cW, 6, .inr (.inr (.inr (.inr (fun i => if i < 6 then some (zp_wanted_r i) else none)))))), (zp_wanted_r 0, .inl (cI, 4, .inl (zp_wanted 0))), (zp_wanted_r 1, .inl (cI, 4, .inl (zp_wanted 1))), (zp_wanted_r 2, .inl (cI, 4, .inl (zp_wanted 2))), (zp_wanted_r 3, .inl (cI, 4, .inl (zp_wanted 3))), (zp_wanted_r 4, .inl (cI, 4, .inl (zp_wanted 4))), (zp_wanted_r 5, .inl (cI, 4, .inl (zp_wanted 5))), (z_giver_a, .inl (cI, 6, .inl z_giver)), (zp_weight_a, .inl (cI, 6, .inl zp_weight)), (z_gave_a, .inl (cI, 6, .inl z_gave))]
abbrev rm_X6_aimOf : Room := { frames := 2, cells := 0, slots := 0, locals := 45 }
set_option maxHeartbeats 4000000 in
set_option maxRecDepth 100000 in
theorem c_X6_aimOf (l : Launch) (dC : Nat → ClassId) (dI : Nat → Nat → Nat) (cI cZ cQ cW : ClassId) (z_o : Nat) (zp_o : Nat) (z_gave_a : Nat) (z_giver_a : Nat) (z_aims_a : Nat) (z_got_a : Nat) (z_lumps_a : Nat) (zp_weight_a : Nat) (zp_nights_a : Nat) (zp_wanted_a : Nat) (zp_wantCount_a : Nat) (zp_wantBits_a : Nat) (zp_wanted_r : Nat → Nat) (z_left : Int32) (z_lumpCount : Int32) (z_ringed : Int32) (zp_size : Int32) (zp_law : Int32) (zp_wantCount : Nat → Int32) (zp_wanted : Nat → Nat → Int32) (z_giver : Nat → Int32) (zp_weight : Nat → Int32) (z_gave : Nat → Int32) (x1 : Int32) (x2 : Int32) {ρ : Type} (N : Nat) (k : Int32 → Option ρ) (res : ρ) (h : f_X6_aimOf N zp_wantCount zp_wanted z_giver zp_weight z_gave x1 x2 k = some res) : Ci l yX6_aimOf (WS yX6_aimOf cX6_aimOf 8 (some .int)) rm_X6_aimOf (dC, dI) (tysG cI cZ cQ cW) E0 [.ref z_o, .int x1, .int x2] (w_X6_aimOf cI cZ cQ cW z_o zp_o z_gave_a z_giver_a z_aims_a z_got_a z_lumps_a zp_weight_a zp_nights_a zp_wanted_a zp_wantCount_a zp_wantBits_a zp_wanted_r z_left z_lumpCount z_ringed zp_size zp_law zp_wantCount zp_wanted z_giver zp_weight z_gave) (fun (_ : Unit) => (w_X6_aimOf cI cZ cQ cW z_o zp_o z_gave_a z_giver_a z_aims_a z_got_a z_lumps_a zp_weight_a zp_nights_a zp_wanted_a zp_wantCount_a zp_wantBits_a zp_wanted_r z_left z_lumpCount z_ringed zp_size zp_law zp_wantCount zp_wanted z_giver zp_weight z_gave)) (fun r _ => k r = some res) := by
  refine Ci.of (cc := cX6_aimOf) (n := 8) (by decide +kernel) (Nat.le_of_ble_eq_true rfl) ?_
  intro p e s m args below meth c A ls Q B hW hE hS hl hQ
  have hx := B.1
  have hb := B.2.1
  have hl : lv_has ls 8 [(0, .ref z_o), (1, .int x1), (2, .int x2)] := hl
  unfold f_X6_aimOf at h
  refine lv_iconst (pc := 0) (v := (-1)) hx hb (tb_at tk_X6_aimOf 0 rfl) (by decide) ?_
  refine lv_istore_n (pc := 1) (lv' := [(3, .int (-1)), (0, .ref z_o), (1, .int x1), (2, .int x2)]) hx hb (tb_at tk_X6_aimOf 1 rfl) rfl hl (by decide) rfl (fun ls hl => ?_)
  refine lv_iconst (pc := 2) (v := 0) hx hb (tb_at tk_X6_aimOf 2 rfl) (by decide) ?_
  refine lv_istore (pc := 3) (lv' := [(4, .int 0), (3, .int (-1)), (0, .ref z_o), (1, .int x1), (2, .int x2)]) hx hb (tb_at tk_X6_aimOf 3 rfl) hl (by decide) rfl (fun ls hl => ?_)
  refine lv_iconst (pc := 5) (v := 0) hx hb (tb_at tk_X6_aimOf 4 rfl) (by decide) ?_
  refine lv_istore (pc := 6) (lv' := [(5, .int 0), (4, .int 0), (3, .int (-1)), (0, .ref z_o), (1, .int x1), (2, .int x2)]) hx hb (tb_at tk_X6_aimOf 5 rfl) hl (by decide) rfl (fun ls hl => ?_)
  have w8 : ∀ (n : Nat), ∀ (y3_l8 : Int32) (y4_l8 : Int32) (y5_l8 : Int32) (H : Heap) (locs : List Loc) (ls : Array Slot), f_X6_aimOf_l8 x1 x2 zp_wantCount zp_wanted z_giver zp_weight z_gave k N n y3_l8 y4_l8 y5_l8 = some res → PD (dC, dI) A (w_X6_aimOf cI cZ cQ cW z_o zp_o z_gave_a z_giver_a z_aims_a z_got_a z_lumps_a zp_weight_a zp_nights_a zp_wanted_a zp_wantCount_a zp_wantBits_a zp_wanted_r z_left z_lumpCount z_ringed zp_size zp_law zp_wantCount zp_wanted z_giver zp_weight z_gave) H → va_S A s.heap H locs → lv_has ls 8 [(0, .ref z_o), (1, .int x1), (2, .int x2), (3, .int y3_l8), (4, .int y4_l8), (5, .int y5_l8)] → W p l e rm_X6_aimOf s m args below meth c H locs 0 0 Q (F0 m 8 ls []) := by
    intro n
    induction n with
    | zero => intro y3_l8 y4_l8 y5_l8 H locs ls h; exact no_n h
    | succ n8 ih8 =>
      intro y3_l8 y4_l8 y5_l8 H locs ls h hW hS hl
      rw [f_X6_aimOf_l8] at h
      refine lv_iload (pc := 8) hx hb (tb_at tk_X6_aimOf 6 rfl) (lv_at hl 5 rfl) ?_
      refine lv_aload_n (pc := 10) hx hb (tb_at tk_X6_aimOf 7 rfl) rfl (lv_at hl 0 rfl) ?_
      refine k_get (pc := 11) (v := .ref zp_o) (T := TX6) B inG6 hW 0 rfl rfl 0 (by decide) q_f_X6_27 rfl rfl (tb_at tk_X6_aimOf 8 rfl) ?_
      refine k_get (pc := 14) (v := .ref zp_wantCount_a) (T := TX2) B inG2 hW 1 rfl rfl 3 (by decide) q_f_X6_73 rfl rfl (tb_at tk_X6_aimOf 9 rfl) ?_
      refine lv_iload_n (pc := 17) hx hb (tb_at tk_X6_aimOf 10 rfl) rfl (lv_at hl 1 rfl) ?_
      have ii := ivi_in (ck_l h)
      have h := ck_r h
      refine k_iald (pc := 18) B hW 2 0 rfl rfl ii (tb_at tk_X6_aimOf 11 rfl) ?_
      refine lv_icmp_ge (pc := 19) (tgt := 90) hx hb (tb_at tk_X6_aimOf 12 rfl) (by decide) (fun cc => ?_) (fun cc => ?_)
      · have h := it_t cc h
        refine lv_iload_n (pc := 90) hx hb (tb_at tk_X6_aimOf 49 rfl) rfl (lv_at hl 3 rfl) ?_
        exact hQ y3_l8 () _ _ _ 91 rfl h hW hS (tb_at tk_X6_aimOf 50 rfl)
      · have h := it_f cc h
        refine lv_aload_n (pc := 22) hx hb (tb_at tk_X6_aimOf 13 rfl) rfl (lv_at hl 0 rfl) ?_
        refine k_get (pc := 23) (v := .ref zp_o) (T := TX6) B inG6 hW 0 rfl rfl 0 (by decide) q_f_X6_27 rfl rfl (tb_at tk_X6_aimOf 14 rfl) ?_
        refine k_get (pc := 26) (v := .ref zp_wanted_a) (T := TX2) B inG2 hW 1 rfl rfl 2 (by decide) q_f_X6_76 rfl rfl (tb_at tk_X6_aimOf 15 rfl) ?_
        refine lv_iload_n (pc := 29) hx hb (tb_at tk_X6_aimOf 16 rfl) rfl (lv_at hl 1 rfl) ?_
        have ir30 := ivi_in (ck_l h)
        have h := ck_r h
        refine k_aldr (pc := 30) (r := zp_wanted_r) B hW 3 3 rfl rfl ir30 (tb_at tk_X6_aimOf 17 rfl) ?_
        refine lv_iload (pc := 31) hx hb (tb_at tk_X6_aimOf 18 rfl) (lv_at hl 5 rfl) ?_
        have ii := ivi_in (ck_l h)
        have h := ck_r h
        refine k_rald (pc := 33) (x := x1) (r := zp_wanted_r) (g := zp_wanted) B hW 4 0 (row6 rfl rfl rfl rfl rfl rfl) rfl ir30 ii (tb_at tk_X6_aimOf 19 rfl) ?_
        refine lv_istore (pc := 34) (lv' := [(6, .int (zp_wanted (x1).toNatClampNeg (y5_l8).toNatClampNeg)), (0, .ref z_o), (1, .int x1), (2, .int x2), (3, .int y3_l8), (4, .int y4_l8), (5, .int y5_l8)]) hx hb (tb_at tk_X6_aimOf 20 rfl) hl (by decide) rfl (fun ls hl => ?_)
        refine lv_aload_n (pc := 36) hx hb (tb_at tk_X6_aimOf 21 rfl) rfl (lv_at hl 1 rfl) ?_
        refine k_get (pc := 37) (v := .ref z_giver_a) (T := TX6) B inG6 hW 0 rfl rfl 2 (by decide) q_f_X6_15 rfl rfl (tb_at tk_X6_aimOf 22 rfl) ?_
        refine lv_iload (pc := 40) hx hb (tb_at tk_X6_aimOf 23 rfl) (lv_at hl 0 rfl) ?_
        have ii := ivi_in (ck_l h)
        have h := ck_r h
        refine k_iald (pc := 42) B hW 10 0 rfl rfl ii (tb_at tk_X6_aimOf 24 rfl) ?_
        refine lv_iconst (pc := 43) (v := (-1)) hx hb (tb_at tk_X6_aimOf 25 rfl) (by decide) ?_
        refine lv_icmp_ne (pc := 44) (tgt := 50) hx hb (tb_at tk_X6_aimOf 26 rfl) (by decide) (fun cc => ?_) (fun cc => ?_)
        · have h := it_f cc h
          refine lv_aload_n (pc := 50) hx hb (tb_at tk_X6_aimOf 28 rfl) rfl (lv_at hl 1 rfl) ?_
          refine lv_iload_n (pc := 51) hx hb (tb_at tk_X6_aimOf 29 rfl) rfl (lv_at hl 2 rfl) ?_
          refine lv_iload (pc := 52) hx hb (tb_at tk_X6_aimOf 30 rfl) (lv_at hl 6 rfl) ?_
          refine lv_iload_n (pc := 54) hx hb (tb_at tk_X6_aimOf 31 rfl) rfl (lv_at hl 3 rfl) ?_
          refine k_calli (pc := 55) B (k_runVi (rest := []) (C := RX6) B (c_X6_distance l dC dI cI cZ cQ cW z_o zp_o z_gave_a z_giver_a z_aims_a z_got_a z_lumps_a zp_weight_a zp_nights_a zp_wanted_a zp_wantCount_a zp_wantBits_a zp_wanted_r z_left z_lumpCount z_ringed zp_size zp_law zp_wanted zp_weight z_gave x1 y5_l8 x2 N _ res h) E0_st (fun _ _ _ => trivial) q_c_X6_distance q_m_X6_80 q_i_X6_distance q_s_X6_distance q_n_X6 hd_X6_distance ⟨rfl, rfl⟩ ⟨Nat.le_of_ble_eq_true rfl, Nat.le_of_ble_eq_true rfl⟩ hW [0, 1, 3, 4, 5, 6, 7, 8, 9, 11, 12] rfl (by decide +kernel) (q0 := 0) (ci := 6) rfl rfl rfl hl.1 rfl (Nat.le_of_ble_eq_true rfl) (tb_at tk_X6_aimOf 32 rfl) ⟨Nat.zero_le _, Nat.zero_le _⟩) hW hS [0, 1, 3, 4, 5, 6, 7, 8, 9, 11, 12] rfl [z_o, zp_o, zp_wanted_a, zp_wanted_r 0, zp_wanted_r 1, zp_wanted_r 2, zp_wanted_r 3, zp_wanted_r 4, zp_wanted_r 5, zp_weight_a, z_gave_a] rfl (fun _ => rfl) [some 0, some 1, none, some 2, some 3, some 4, some 5, some 6, some 7, some 8, none, some 9, some 10] (by decide +kernel) (fun _ => (w_X6_aimOf cI cZ cQ cW z_o zp_o z_gave_a z_giver_a z_aims_a z_got_a z_lumps_a zp_weight_a zp_nights_a zp_wanted_a zp_wantCount_a zp_wantBits_a zp_wanted_r z_left z_lumpCount z_ringed zp_size zp_law zp_wantCount zp_wanted z_giver zp_weight z_gave)) (fun _ => rfl) (fun r55 u H locs h hW hS => ?_)
          have hW : PD (dC, dI) A (w_X6_aimOf cI cZ cQ cW z_o zp_o z_gave_a z_giver_a z_aims_a z_got_a z_lumps_a zp_weight_a zp_nights_a zp_wanted_a zp_wantCount_a zp_wantBits_a zp_wanted_r z_left z_lumpCount z_ringed zp_size zp_law zp_wantCount zp_wanted z_giver zp_weight z_gave) H := hW
          refine lv_istore (pc := 58) (lv' := [(7, .int r55), (6, .int (zp_wanted (x1).toNatClampNeg (y5_l8).toNatClampNeg)), (0, .ref z_o), (1, .int x1), (2, .int x2), (3, .int y3_l8), (4, .int y4_l8), (5, .int y5_l8)]) hx hb (tb_at tk_X6_aimOf 33 rfl) hl (by decide) rfl (fun ls hl => ?_)
          refine lv_iload_n (pc := 60) hx hb (tb_at tk_X6_aimOf 34 rfl) rfl (lv_at hl 5 rfl) ?_
          refine lv_iconst (pc := 61) (v := (-1)) hx hb (tb_at tk_X6_aimOf 35 rfl) (by decide) ?_
          have w72 : ∀ (H : Heap) (locs : List Loc) (ls : Array Slot), f_X6_aimOf_j72 x1 zp_wanted z_giver y5_l8 r55 (f_X6_aimOf_l8 x1 x2 zp_wantCount zp_wanted z_giver zp_weight z_gave k N n8) = some res → PD (dC, dI) A (w_X6_aimOf cI cZ cQ cW z_o zp_o z_gave_a z_giver_a z_aims_a z_got_a z_lumps_a zp_weight_a zp_nights_a zp_wanted_a zp_wantCount_a zp_wantBits_a zp_wanted_r z_left z_lumpCount z_ringed zp_size zp_law zp_wantCount zp_wanted z_giver zp_weight z_gave) H → va_S A s.heap H locs → lv_has ls 8 [(0, .ref z_o), (1, .int x1), (2, .int x2), (5, .int y5_l8), (6, .int (zp_wanted (x1).toNatClampNeg (y5_l8).toNatClampNeg)), (7, .int r55)] → W p l e rm_X6_aimOf s m args below meth c H locs 0 0 Q (F0 m 72 ls []) := by
            intro H locs ls h hW hS hl
            unfold f_X6_aimOf_j72 at h
            refine lv_aload_n (pc := 72) hx hb (tb_at tk_X6_aimOf 40 rfl) rfl (lv_at hl 0 rfl) ?_
            refine k_get (pc := 73) (v := .ref z_giver_a) (T := TX6) B inG6 hW 0 rfl rfl 2 (by decide) q_f_X6_15 rfl rfl (tb_at tk_X6_aimOf 41 rfl) ?_
            refine lv_iload (pc := 76) hx hb (tb_at tk_X6_aimOf 42 rfl) (lv_at hl 4 rfl) ?_
            have ii := ivi_in (ck_l h)
            have h := ck_r h
            refine k_iald (pc := 78) B hW 10 0 rfl rfl ii (tb_at tk_X6_aimOf 43 rfl) ?_
            refine lv_istore_n (pc := 79) (lv' := [(3, .int (z_giver (zp_wanted (x1).toNatClampNeg (y5_l8).toNatClampNeg).toNatClampNeg)), (0, .ref z_o), (1, .int x1), (2, .int x2), (5, .int y5_l8), (6, .int (zp_wanted (x1).toNatClampNeg (y5_l8).toNatClampNeg)), (7, .int r55)]) hx hb (tb_at tk_X6_aimOf 44 rfl) rfl hl (by decide) rfl (fun ls hl => ?_)
            refine lv_iload (pc := 80) hx hb (tb_at tk_X6_aimOf 45 rfl) (lv_at hl 6 rfl) ?_
            refine lv_istore (pc := 82) (lv' := [(4, .int r55), (3, .int (z_giver (zp_wanted (x1).toNatClampNeg (y5_l8).toNatClampNeg).toNatClampNeg)), (0, .ref z_o), (1, .int x1), (2, .int x2), (5, .int y5_l8), (6, .int (zp_wanted (x1).toNatClampNeg (y5_l8).toNatClampNeg)), (7, .int r55)]) hx hb (tb_at tk_X6_aimOf 46 rfl) hl (by decide) rfl (fun ls hl => ?_)
            refine lv_iinc (pc := 84) (v := y5_l8 + 1) (lv' := [(5, .int (y5_l8 + 1)), (4, .int r55), (3, .int (z_giver (zp_wanted (x1).toNatClampNeg (y5_l8).toNatClampNeg).toNatClampNeg)), (0, .ref z_o), (1, .int x1), (2, .int x2), (6, .int (zp_wanted (x1).toNatClampNeg (y5_l8).toNatClampNeg)), (7, .int r55)]) hx hb (tb_at tk_X6_aimOf 47 rfl) hl (k := 5) rfl rfl (by decide) rfl (fun ls hl => ?_)
            refine lv_goto (pc := 87) (tgt := 8) hx hb (tb_at tk_X6_aimOf 48 rfl) (by decide) ?_
            exact ih8 (z_giver (zp_wanted (x1).toNatClampNeg (y5_l8).toNatClampNeg).toNatClampNeg) r55 (y5_l8 + 1) _ _ _ h hW hS (lv_sub hl [3, 4, 5, 2, 1, 0] rfl)
          refine lv_icmp_eq (pc := 62) (tgt := 72) hx hb (tb_at tk_X6_aimOf 36 rfl) (by decide) (fun cc => ?_) (fun cc => ?_)
          · have h := it_t cc h
            exact w72  _ _ _ h hW hS (lv_sub hl [2, 3, 4, 7, 1, 0] rfl)
          · have h := it_f cc h
            refine lv_iload (pc := 65) hx hb (tb_at tk_X6_aimOf 37 rfl) (lv_at hl 0 rfl) ?_
            refine lv_iload (pc := 67) hx hb (tb_at tk_X6_aimOf 38 rfl) (lv_at hl 6 rfl) ?_
            refine lv_icmp_ge (pc := 69) (tgt := 84) hx hb (tb_at tk_X6_aimOf 39 rfl) (by decide) (fun cc => ?_) (fun cc => ?_)
            · have h := it_t cc h
              refine lv_iinc (pc := 84) (v := y5_l8 + 1) (lv' := [(5, .int (y5_l8 + 1)), (7, .int r55), (6, .int (zp_wanted (x1).toNatClampNeg (y5_l8).toNatClampNeg)), (0, .ref z_o), (1, .int x1), (2, .int x2), (3, .int y3_l8), (4, .int y4_l8)]) hx hb (tb_at tk_X6_aimOf 47 rfl) hl (k := 7) rfl rfl (by decide) rfl (fun ls hl => ?_)
              refine lv_goto (pc := 87) (tgt := 8) hx hb (tb_at tk_X6_aimOf 48 rfl) (by decide) ?_
              exact ih8 y3_l8 y4_l8 (y5_l8 + 1) _ _ _ h hW hS (lv_sub hl [3, 4, 5, 6, 7, 0] rfl)
            · have h := it_f cc h
              exact w72  _ _ _ h hW hS (lv_sub hl [2, 3, 4, 7, 1, 0] rfl)
        · have h := it_t cc h
          refine lv_goto (pc := 47) (tgt := 84) hx hb (tb_at tk_X6_aimOf 27 rfl) (by decide) ?_
          refine lv_iinc (pc := 84) (v := y5_l8 + 1) (lv' := [(5, .int (y5_l8 + 1)), (6, .int (zp_wanted (x1).toNatClampNeg (y5_l8).toNatClampNeg)), (0, .ref z_o), (1, .int x1), (2, .int x2), (3, .int y3_l8), (4, .int y4_l8)]) hx hb (tb_at tk_X6_aimOf 47 rfl) hl (k := 6) rfl rfl (by decide) rfl (fun ls hl => ?_)
          refine lv_goto (pc := 87) (tgt := 8) hx hb (tb_at tk_X6_aimOf 48 rfl) (by decide) ?_
          exact ih8 y3_l8 y4_l8 (y5_l8 + 1) _ _ _ h hW hS (lv_sub hl [2, 3, 4, 5, 6, 0] rfl)
  exact w8 N (-1) 0 0 _ _ _ h hW hS (lv_sub hl [3, 4, 5, 2, 1, 0] rfl)
def f_X6_aimAll_l2 {ρ : Type} (x1 : Int32) (z_left : Int32) (zp_size : Int32) (zp_wantCount : Nat → Int32) (zp_wanted : Nat → Nat → Int32) (z_giver : Nat → Int32) (zp_weight : Nat → Int32) (z_gave : Nat → Int32) (k : Int32 → (Nat → Int32) → Option ρ) (N : Nat) : Nat → Int32 → (Nat → Int32) → Option ρ
  | 0, _, _ => none
  | n2 + 1, y2_l2, z_aims_l2 => if zp_size ≤ y2_l2 then (k (-1) z_aims_l2) else (f_X7_holds N z_left y2_l2 (fun r18 => if r18 = 0 then ((f_X6_aimAll_l2 x1 z_left zp_size zp_wantCount zp_wanted z_giver zp_weight z_gave k N n2) (y2_l2 + 1) z_aims_l2) else (f_X6_aimOf N zp_wantCount zp_wanted z_giver zp_weight z_gave y2_l2 x1 (fun r35 => ck (ivi y2_l2 6) (ck (ivi y2_l2 6) (if ((upd z_aims_l2 (y2_l2).toNatClampNeg r35) (y2_l2).toNatClampNeg) = (-1) then (k y2_l2 (upd z_aims_l2 (y2_l2).toNatClampNeg r35)) else ((f_X6_aimAll_l2 x1 z_left zp_size zp_wantCount zp_wanted z_giver zp_weight z_gave k N n2) (y2_l2 + 1) (upd z_aims_l2 (y2_l2).toNatClampNeg r35))))))))
def f_X6_aimAll {ρ : Type} (N : Nat) (z_left : Int32) (zp_size : Int32) (zp_wantCount : Nat → Int32) (zp_wanted : Nat → Nat → Int32) (z_giver : Nat → Int32) (zp_weight : Nat → Int32) (z_gave : Nat → Int32) (z_aims : Nat → Int32) (x1 : Int32) (k : Int32 → (Nat → Int32) → Option ρ) : Option ρ := f_X6_aimAll_l2 x1 z_left zp_size zp_wantCount zp_wanted z_giver zp_weight z_gave k N N 0 z_aims
abbrev w_X6_aimAll (cI cZ cQ cW : ClassId) (z_o : Nat) (zp_o : Nat) (z_gave_a : Nat) (z_giver_a : Nat) (z_aims_a : Nat) (z_got_a : Nat) (z_lumps_a : Nat) (zp_weight_a : Nat) (zp_nights_a : Nat) (zp_wanted_a : Nat) (zp_wantCount_a : Nat) (zp_wantBits_a : Nat) (zp_wanted_r : Nat → Nat) (z_left : Int32) (z_lumpCount : Int32) (z_ringed : Int32) (zp_size : Int32) (zp_law : Int32) (zp_wantCount : Nat → Int32) (zp_wanted : Nat → Nat → Int32) (z_giver : Nat → Int32) (zp_weight : Nat → Int32) (z_gave : Nat → Int32) (z_aims : Nat → Int32) : va_W := [(z_o, .inr (6, [.ref zp_o, .ref z_gave_a, .ref z_giver_a, .ref z_aims_a, .int z_left, .ref z_got_a, .ref z_lumps_a, .int z_lumpCount, .int z_ringed])), (zp_o, .inr (2, [.ref zp_weight_a, .ref zp_nights_a, .ref zp_wanted_a, .ref zp_wantCount_a, .ref zp_wantBits_a, .int zp_size, .int zp_law])), (zp_wantCount_a, .inl (cI, 6, .inl zp_wantCount)), (zp_wanted_a, .inl (cW, 6, .inr (.inr (.inr (.inr (fun i => if i < 6 then some (zp_wanted_r i) else none)))))), (zp_wanted_r 0, .inl (cI, 4, .inl (zp_wanted 0))), (zp_wanted_r 1, .inl (cI, 4, .inl (zp_wanted 1))), (zp_wanted_r 2, .inl (cI, 4, .inl (zp_wanted 2))), (zp_wanted_r 3, .inl (cI, 4, .inl (zp_wanted 3))), (zp_wanted_r 4, .inl (cI, 4, .inl (zp_wanted 4))), (zp_wanted_r 5, .inl (cI, 4, .inl (zp_wanted 5))), (z_giver_a, .inl (cI, 6, .inl z_giver)), (zp_weight_a, .inl (cI, 6, .inl zp_weight)), (z_gave_a, .inl (cI, 6, .inl z_gave)), (z_aims_a, .inl (cI, 6, .inl z_aims))]
abbrev rm_X6_aimAll : Room := { frames := 3, cells := 0, slots := 0, locals := 72 }
set_option maxHeartbeats 4000000 in
set_option maxRecDepth 100000 in
theorem c_X6_aimAll (l : Launch) (dC : Nat → ClassId) (dI : Nat → Nat → Nat) (cI cZ cQ cW : ClassId) (z_o : Nat) (zp_o : Nat) (z_gave_a : Nat) (z_giver_a : Nat) (z_aims_a : Nat) (z_got_a : Nat) (z_lumps_a : Nat) (zp_weight_a : Nat) (zp_nights_a : Nat) (zp_wanted_a : Nat) (zp_wantCount_a : Nat) (zp_wantBits_a : Nat) (zp_wanted_r : Nat → Nat) (z_left : Int32) (z_lumpCount : Int32) (z_ringed : Int32) (zp_size : Int32) (zp_law : Int32) (zp_wantCount : Nat → Int32) (zp_wanted : Nat → Nat → Int32) (z_giver : Nat → Int32) (zp_weight : Nat → Int32) (z_gave : Nat → Int32) (z_aims : Nat → Int32) (x1 : Int32) {ρ : Type} (N : Nat) (k : Int32 → (Nat → Int32) → Option ρ) (res : ρ) (h : f_X6_aimAll N z_left zp_size zp_wantCount zp_wanted z_giver zp_weight z_gave z_aims x1 k = some res) : Ci l yX6_aimAll (WS yX6_aimAll cX6_aimAll 3 (some .int)) rm_X6_aimAll (dC, dI) (tysG cI cZ cQ cW) E0 [.ref z_o, .int x1] (w_X6_aimAll cI cZ cQ cW z_o zp_o z_gave_a z_giver_a z_aims_a z_got_a z_lumps_a zp_weight_a zp_nights_a zp_wanted_a zp_wantCount_a zp_wantBits_a zp_wanted_r z_left z_lumpCount z_ringed zp_size zp_law zp_wantCount zp_wanted z_giver zp_weight z_gave z_aims) (fun (u : (Nat → Int32)) => (w_X6_aimAll cI cZ cQ cW z_o zp_o z_gave_a z_giver_a z_aims_a z_got_a z_lumps_a zp_weight_a zp_nights_a zp_wanted_a zp_wantCount_a zp_wantBits_a zp_wanted_r z_left z_lumpCount z_ringed zp_size zp_law zp_wantCount zp_wanted z_giver zp_weight z_gave u)) (fun r u => k r u = some res) := by
  refine Ci.of (cc := cX6_aimAll) (n := 3) (by decide +kernel) (Nat.le_of_ble_eq_true rfl) ?_
  intro p e s m args below meth c A ls Q B hW hE hS hl hQ
  have hx := B.1
  have hb := B.2.1
  have hl : lv_has ls 3 [(0, .ref z_o), (1, .int x1)] := hl
  unfold f_X6_aimAll at h
  refine lv_iconst (pc := 0) (v := 0) hx hb (tb_at tk_X6_aimAll 0 rfl) (by decide) ?_
  refine lv_istore_n (pc := 1) (lv' := [(2, .int 0), (0, .ref z_o), (1, .int x1)]) hx hb (tb_at tk_X6_aimAll 1 rfl) rfl hl (by decide) rfl (fun ls hl => ?_)
  have w2 : ∀ (n : Nat), ∀ (y2_l2 : Int32) (z_aims_l2 : Nat → Int32) (H : Heap) (locs : List Loc) (ls : Array Slot), f_X6_aimAll_l2 x1 z_left zp_size zp_wantCount zp_wanted z_giver zp_weight z_gave k N n y2_l2 z_aims_l2 = some res → PD (dC, dI) A (w_X6_aimAll cI cZ cQ cW z_o zp_o z_gave_a z_giver_a z_aims_a z_got_a z_lumps_a zp_weight_a zp_nights_a zp_wanted_a zp_wantCount_a zp_wantBits_a zp_wanted_r z_left z_lumpCount z_ringed zp_size zp_law zp_wantCount zp_wanted z_giver zp_weight z_gave z_aims_l2) H → va_S A s.heap H locs → lv_has ls 3 [(0, .ref z_o), (1, .int x1), (2, .int y2_l2)] → W p l e rm_X6_aimAll s m args below meth c H locs 0 0 Q (F0 m 2 ls []) := by
    intro n
    induction n with
    | zero => intro y2_l2 z_aims_l2 H locs ls h; exact no_n h
    | succ n2 ih2 =>
      intro y2_l2 z_aims_l2 H locs ls h hW hS hl
      rw [f_X6_aimAll_l2] at h
      refine lv_iload_n (pc := 2) hx hb (tb_at tk_X6_aimAll 2 rfl) rfl (lv_at hl 2 rfl) ?_
      refine lv_aload_n (pc := 3) hx hb (tb_at tk_X6_aimAll 3 rfl) rfl (lv_at hl 0 rfl) ?_
      refine k_get (pc := 4) (v := .ref zp_o) (T := TX6) B inG6 hW 0 rfl rfl 0 (by decide) q_f_X6_27 rfl rfl (tb_at tk_X6_aimAll 4 rfl) ?_
      refine k_get (pc := 7) (v := .int zp_size) (T := TX2) B inG2 hW 1 rfl rfl 5 (by decide) q_f_X6_56 rfl rfl (tb_at tk_X6_aimAll 5 rfl) ?_
      refine lv_icmp_ge (pc := 10) (tgt := 57) hx hb (tb_at tk_X6_aimAll 6 rfl) (by decide) (fun cc => ?_) (fun cc => ?_)
      · have h := it_t cc h
        refine lv_iconst (pc := 57) (v := (-1)) hx hb (tb_at tk_X6_aimAll 31 rfl) (by decide) ?_
        exact hQ (-1) (z_aims_l2) _ _ _ 58 rfl h hW hS (tb_at tk_X6_aimAll 32 rfl)
      · have h := it_f cc h
        refine lv_aload_n (pc := 13) hx hb (tb_at tk_X6_aimAll 7 rfl) rfl (lv_at hl 0 rfl) ?_
        refine k_get (pc := 14) (v := .int z_left) (T := TX6) B inG6 hW 0 rfl rfl 4 (by decide) q_f_X6_35 rfl rfl (tb_at tk_X6_aimAll 8 rfl) ?_
        refine lv_iload_n (pc := 17) hx hb (tb_at tk_X6_aimAll 9 rfl) rfl (lv_at hl 2 rfl) ?_
        refine k_call0 (pc := 18) B (k_runNi (rest := []) (host := RX7) B (c_X7_holds l dC dI cI cZ cQ cW   z_left y2_l2 N _ res h) E0_st (fun _ _ _ => trivial) q_c_X7_holds q_h_X6_61 q_t_X7_holds q_n_X7 hd_X7_holds ⟨rfl, rfl⟩ ⟨Nat.le_of_ble_eq_true rfl, Nat.le_of_ble_eq_true rfl⟩ hW [] rfl (by decide +kernel) rfl hl.1 rfl (Nat.le_of_ble_eq_true rfl) (tb_at tk_X6_aimAll 10 rfl) ⟨Nat.zero_le _, Nat.zero_le _⟩) hW hS (fun r18 u H locs h hW hS => ?_)
        refine lv_if_ne (pc := 21) (tgt := 27) hx hb (tb_at tk_X6_aimAll 11 rfl) (by decide) (fun cc => ?_) (fun cc => ?_)
        · have h := it_f cc h
          refine lv_aload_n (pc := 27) hx hb (tb_at tk_X6_aimAll 13 rfl) rfl (lv_at hl 0 rfl) ?_
          refine k_get (pc := 28) (v := .ref z_aims_a) (T := TX6) B inG6 hW 0 rfl rfl 3 (by decide) q_f_X6_18 rfl rfl (tb_at tk_X6_aimAll 14 rfl) ?_
          refine lv_iload_n (pc := 31) hx hb (tb_at tk_X6_aimAll 15 rfl) rfl (lv_at hl 2 rfl) ?_
          refine lv_aload_n (pc := 32) hx hb (tb_at tk_X6_aimAll 16 rfl) rfl (lv_at hl 0 rfl) ?_
          refine lv_iload_n (pc := 33) hx hb (tb_at tk_X6_aimAll 17 rfl) rfl (lv_at hl 2 rfl) ?_
          refine lv_iload_n (pc := 34) hx hb (tb_at tk_X6_aimAll 18 rfl) rfl (lv_at hl 1 rfl) ?_
          refine k_calli (pc := 35) B (k_runVi (rest := [.int y2_l2, .ref z_aims_a]) (C := RX6) B (c_X6_aimOf l dC dI cI cZ cQ cW z_o zp_o z_gave_a z_giver_a z_aims_a z_got_a z_lumps_a zp_weight_a zp_nights_a zp_wanted_a zp_wantCount_a zp_wantBits_a zp_wanted_r z_left z_lumpCount z_ringed zp_size zp_law zp_wantCount zp_wanted z_giver zp_weight z_gave y2_l2 x1 N _ res h) E0_st (fun _ _ _ => trivial) q_c_X6_aimOf q_m_X6_69 q_i_X6_aimOf q_s_X6_aimOf q_n_X6 hd_X6_aimOf ⟨rfl, rfl⟩ ⟨Nat.le_of_ble_eq_true rfl, Nat.le_of_ble_eq_true rfl⟩ hW [0, 1, 2, 3, 4, 5, 6, 7, 8, 9, 10, 11, 12] rfl (by decide +kernel) (q0 := 0) (ci := 6) rfl rfl rfl hl.1 rfl (Nat.le_of_ble_eq_true rfl) (tb_at tk_X6_aimAll 19 rfl) ⟨Nat.zero_le _, Nat.zero_le _⟩) hW hS [0, 1, 2, 3, 4, 5, 6, 7, 8, 9, 10, 11, 12] rfl [z_o, zp_o, zp_wantCount_a, zp_wanted_a, zp_wanted_r 0, zp_wanted_r 1, zp_wanted_r 2, zp_wanted_r 3, zp_wanted_r 4, zp_wanted_r 5, z_giver_a, zp_weight_a, z_gave_a] rfl (fun _ => rfl) [some 0, some 1, some 2, some 3, some 4, some 5, some 6, some 7, some 8, some 9, some 10, some 11, some 12, none] (by decide +kernel) (fun _ => (w_X6_aimAll cI cZ cQ cW z_o zp_o z_gave_a z_giver_a z_aims_a z_got_a z_lumps_a zp_weight_a zp_nights_a zp_wanted_a zp_wantCount_a zp_wantBits_a zp_wanted_r z_left z_lumpCount z_ringed zp_size zp_law zp_wantCount zp_wanted z_giver zp_weight z_gave z_aims_l2)) (fun _ => rfl) (fun r35 u H locs h hW hS => ?_)
          have hW : PD (dC, dI) A (w_X6_aimAll cI cZ cQ cW z_o zp_o z_gave_a z_giver_a z_aims_a z_got_a z_lumps_a zp_weight_a zp_nights_a zp_wanted_a zp_wantCount_a zp_wantBits_a zp_wanted_r z_left z_lumpCount z_ringed zp_size zp_law zp_wantCount zp_wanted z_giver zp_weight z_gave z_aims_l2) H := hW
          have ii := ivi_in (ck_l h)
          have h := ck_r h
          refine k_iast (pc := 38) B hW hS 13 0 rfl rfl ii (tb_at tk_X6_aimAll 20 rfl) (w_X6_aimAll cI cZ cQ cW z_o zp_o z_gave_a z_giver_a z_aims_a z_got_a z_lumps_a zp_weight_a zp_nights_a zp_wanted_a zp_wantCount_a zp_wantBits_a zp_wanted_r z_left z_lumpCount z_ringed zp_size zp_law zp_wantCount zp_wanted z_giver zp_weight z_gave (upd z_aims_l2 (y2_l2).toNatClampNeg r35)) rfl (fun H locs hW hS => ?_)
          refine lv_aload_n (pc := 39) hx hb (tb_at tk_X6_aimAll 21 rfl) rfl (lv_at hl 0 rfl) ?_
          refine k_get (pc := 40) (v := .ref z_aims_a) (T := TX6) B inG6 hW 0 rfl rfl 3 (by decide) q_f_X6_18 rfl rfl (tb_at tk_X6_aimAll 22 rfl) ?_
          refine lv_iload_n (pc := 43) hx hb (tb_at tk_X6_aimAll 23 rfl) rfl (lv_at hl 2 rfl) ?_
          have ii := ivi_in (ck_l h)
          have h := ck_r h
          refine k_iald (pc := 44) B hW 13 0 rfl rfl ii (tb_at tk_X6_aimAll 24 rfl) ?_
          refine lv_iconst (pc := 45) (v := (-1)) hx hb (tb_at tk_X6_aimAll 25 rfl) (by decide) ?_
          refine lv_icmp_ne (pc := 46) (tgt := 51) hx hb (tb_at tk_X6_aimAll 26 rfl) (by decide) (fun cc => ?_) (fun cc => ?_)
          · have h := it_f cc h
            refine lv_iinc (pc := 51) (v := y2_l2 + 1) (lv' := [(2, .int (y2_l2 + 1)), (0, .ref z_o), (1, .int x1)]) hx hb (tb_at tk_X6_aimAll 29 rfl) hl (k := 2) rfl rfl (by decide) rfl (fun ls hl => ?_)
            refine lv_goto (pc := 54) (tgt := 2) hx hb (tb_at tk_X6_aimAll 30 rfl) (by decide) ?_
            exact ih2 (y2_l2 + 1) (upd z_aims_l2 (y2_l2).toNatClampNeg r35) _ _ _ h hW hS (lv_sub hl [1, 2, 0] rfl)
          · have h := it_t cc h
            refine lv_iload_n (pc := 49) hx hb (tb_at tk_X6_aimAll 27 rfl) rfl (lv_at hl 2 rfl) ?_
            exact hQ y2_l2 (upd z_aims_l2 (y2_l2).toNatClampNeg r35) _ _ _ 50 rfl h hW hS (tb_at tk_X6_aimAll 28 rfl)
        · have h := it_t cc h
          refine lv_goto (pc := 24) (tgt := 51) hx hb (tb_at tk_X6_aimAll 12 rfl) (by decide) ?_
          refine lv_iinc (pc := 51) (v := y2_l2 + 1) (lv' := [(2, .int (y2_l2 + 1)), (0, .ref z_o), (1, .int x1)]) hx hb (tb_at tk_X6_aimAll 29 rfl) hl (k := 2) rfl rfl (by decide) rfl (fun ls hl => ?_)
          refine lv_goto (pc := 54) (tgt := 2) hx hb (tb_at tk_X6_aimAll 30 rfl) (by decide) ?_
          exact ih2 (y2_l2 + 1) z_aims_l2 _ _ _ h hW hS (lv_sub hl [1, 2, 0] rfl)
  exact w2 N 0 z_aims _ _ _ h hW hS (lv_sub hl [1, 2, 0] rfl)
def f_X6_lowestLeft_l2 {ρ : Type} (z_left : Int32) (k : Int32 → Option ρ) (N : Nat) : Nat → Int32 → Option ρ
  | 0, _ => none
  | n2 + 1, y1_l2 => if 5 ≤ y1_l2 then (k 5) else (f_X7_holds N z_left y1_l2 (fun r12 => if r12 = 0 then ((f_X6_lowestLeft_l2 z_left k N n2) (y1_l2 + 1)) else (k y1_l2)))
def f_X6_lowestLeft {ρ : Type} (N : Nat) (z_left : Int32) (k : Int32 → Option ρ) : Option ρ := f_X6_lowestLeft_l2 z_left k N N 0
abbrev w_X6_lowestLeft (cI cZ cQ cW : ClassId) (z_o : Nat) (zp_o : Nat) (z_gave_a : Nat) (z_giver_a : Nat) (z_aims_a : Nat) (z_got_a : Nat) (z_lumps_a : Nat) (z_left : Int32) (z_lumpCount : Int32) (z_ringed : Int32) : va_W := [(z_o, .inr (6, [.ref zp_o, .ref z_gave_a, .ref z_giver_a, .ref z_aims_a, .int z_left, .ref z_got_a, .ref z_lumps_a, .int z_lumpCount, .int z_ringed]))]
abbrev rm_X6_lowestLeft : Room := { frames := 1, cells := 0, slots := 0, locals := 21 }
set_option maxHeartbeats 4000000 in
set_option maxRecDepth 100000 in
theorem c_X6_lowestLeft (l : Launch) (dC : Nat → ClassId) (dI : Nat → Nat → Nat) (cI cZ cQ cW : ClassId) (z_o : Nat) (zp_o : Nat) (z_gave_a : Nat) (z_giver_a : Nat) (z_aims_a : Nat) (z_got_a : Nat) (z_lumps_a : Nat) (z_left : Int32) (z_lumpCount : Int32) (z_ringed : Int32) {ρ : Type} (N : Nat) (k : Int32 → Option ρ) (res : ρ) (h : f_X6_lowestLeft N z_left k = some res) : Ci l yX6_lowestLeft (WS yX6_lowestLeft cX6_lowestLeft 2 (some .int)) rm_X6_lowestLeft (dC, dI) (tysG cI cZ cQ cW) E0 [.ref z_o] (w_X6_lowestLeft cI cZ cQ cW z_o zp_o z_gave_a z_giver_a z_aims_a z_got_a z_lumps_a z_left z_lumpCount z_ringed) (fun (_ : Unit) => (w_X6_lowestLeft cI cZ cQ cW z_o zp_o z_gave_a z_giver_a z_aims_a z_got_a z_lumps_a z_left z_lumpCount z_ringed)) (fun r _ => k r = some res) := by
  refine Ci.of (cc := cX6_lowestLeft) (n := 2) (by decide +kernel) (Nat.le_of_ble_eq_true rfl) ?_
  intro p e s m args below meth c A ls Q B hW hE hS hl hQ
  have hx := B.1
  have hb := B.2.1
  have hl : lv_has ls 2 [(0, .ref z_o)] := hl
  unfold f_X6_lowestLeft at h
  refine lv_iconst (pc := 0) (v := 0) hx hb (tb_at tk_X6_lowestLeft 0 rfl) (by decide) ?_
  refine lv_istore_n (pc := 1) (lv' := [(1, .int 0), (0, .ref z_o)]) hx hb (tb_at tk_X6_lowestLeft 1 rfl) rfl hl (by decide) rfl (fun ls hl => ?_)
  have w2 : ∀ (n : Nat), ∀ (y1_l2 : Int32) (H : Heap) (locs : List Loc) (ls : Array Slot), f_X6_lowestLeft_l2 z_left k N n y1_l2 = some res → PD (dC, dI) A (w_X6_lowestLeft cI cZ cQ cW z_o zp_o z_gave_a z_giver_a z_aims_a z_got_a z_lumps_a z_left z_lumpCount z_ringed) H → va_S A s.heap H locs → lv_has ls 2 [(0, .ref z_o), (1, .int y1_l2)] → W p l e rm_X6_lowestLeft s m args below meth c H locs 0 0 Q (F0 m 2 ls []) := by
    intro n
    induction n with
    | zero => intro y1_l2 H locs ls h; exact no_n h
    | succ n2 ih2 =>
      intro y1_l2 H locs ls h hW hS hl
      rw [f_X6_lowestLeft_l2] at h
      refine lv_iload_n (pc := 2) hx hb (tb_at tk_X6_lowestLeft 2 rfl) rfl (lv_at hl 1 rfl) ?_
      refine lv_iconst (pc := 3) (v := 5) hx hb (tb_at tk_X6_lowestLeft 3 rfl) (by decide) ?_
      refine lv_icmp_ge (pc := 4) (tgt := 26) hx hb (tb_at tk_X6_lowestLeft 4 rfl) (by decide) (fun cc => ?_) (fun cc => ?_)
      · have h := it_t cc h
        refine lv_iconst (pc := 26) (v := 5) hx hb (tb_at tk_X6_lowestLeft 14 rfl) (by decide) ?_
        exact hQ 5 () _ _ _ 27 rfl h hW hS (tb_at tk_X6_lowestLeft 15 rfl)
      · have h := it_f cc h
        refine lv_aload_n (pc := 7) hx hb (tb_at tk_X6_lowestLeft 5 rfl) rfl (lv_at hl 0 rfl) ?_
        refine k_get (pc := 8) (v := .int z_left) (T := TX6) B inG6 hW 0 rfl rfl 4 (by decide) q_f_X6_35 rfl rfl (tb_at tk_X6_lowestLeft 6 rfl) ?_
        refine lv_iload_n (pc := 11) hx hb (tb_at tk_X6_lowestLeft 7 rfl) rfl (lv_at hl 1 rfl) ?_
        refine k_call0 (pc := 12) B (k_runNi (rest := []) (host := RX7) B (c_X7_holds l dC dI cI cZ cQ cW   z_left y1_l2 N _ res h) E0_st (fun _ _ _ => trivial) q_c_X7_holds q_h_X6_61 q_t_X7_holds q_n_X7 hd_X7_holds ⟨rfl, rfl⟩ ⟨Nat.le_of_ble_eq_true rfl, Nat.le_of_ble_eq_true rfl⟩ hW [] rfl (by decide +kernel) rfl hl.1 rfl (Nat.le_of_ble_eq_true rfl) (tb_at tk_X6_lowestLeft 8 rfl) ⟨Nat.zero_le _, Nat.zero_le _⟩) hW hS (fun r12 u H locs h hW hS => ?_)
        refine lv_if_eq (pc := 15) (tgt := 20) hx hb (tb_at tk_X6_lowestLeft 9 rfl) (by decide) (fun cc => ?_) (fun cc => ?_)
        · have h := it_t cc h
          refine lv_iinc (pc := 20) (v := y1_l2 + 1) (lv' := [(1, .int (y1_l2 + 1)), (0, .ref z_o)]) hx hb (tb_at tk_X6_lowestLeft 12 rfl) hl (k := 1) rfl rfl (by decide) rfl (fun ls hl => ?_)
          refine lv_goto (pc := 23) (tgt := 2) hx hb (tb_at tk_X6_lowestLeft 13 rfl) (by decide) ?_
          exact ih2 (y1_l2 + 1) _ _ _ h hW hS (lv_sub hl [1, 0] rfl)
        · have h := it_f cc h
          refine lv_iload_n (pc := 18) hx hb (tb_at tk_X6_lowestLeft 10 rfl) rfl (lv_at hl 1 rfl) ?_
          exact hQ y1_l2 () _ _ _ 19 rfl h hW hS (tb_at tk_X6_lowestLeft 11 rfl)
  exact w2 N 0 _ _ _ h hW hS (lv_sub hl [1, 0] rfl)
def f_X6_letOut {ρ : Type} (N : Nat) (z_left : Int32) (z_gave : Nat → Int32) (z_giver : Nat → Int32) (x1 : Int32) (k : Int32 → (Nat → Int32) → Option ρ) : Option ρ := ck (ivi x1 6) (ck (ivi (z_gave (x1).toNatClampNeg) 6) (k (z_left &&& (((1 : Int32) <<< (x1 &&& 31)) ^^^ (-1))) (upd z_giver (z_gave (x1).toNatClampNeg).toNatClampNeg (-1))))
abbrev w_X6_letOut (cI cZ cQ cW : ClassId) (z_o : Nat) (zp_o : Nat) (z_gave_a : Nat) (z_giver_a : Nat) (z_aims_a : Nat) (z_got_a : Nat) (z_lumps_a : Nat) (z_left : Int32) (z_lumpCount : Int32) (z_ringed : Int32) (z_gave : Nat → Int32) (z_giver : Nat → Int32) : va_W := [(z_o, .inr (6, [.ref zp_o, .ref z_gave_a, .ref z_giver_a, .ref z_aims_a, .int z_left, .ref z_got_a, .ref z_lumps_a, .int z_lumpCount, .int z_ringed])), (z_gave_a, .inl (cI, 6, .inl z_gave)), (z_giver_a, .inl (cI, 6, .inl z_giver))]
abbrev rm_X6_letOut : Room := { frames := 0, cells := 0, slots := 0, locals := 0 }
set_option maxHeartbeats 4000000 in
set_option maxRecDepth 100000 in
theorem c_X6_letOut (l : Launch) (dC : Nat → ClassId) (dI : Nat → Nat → Nat) (cI cZ cQ cW : ClassId) (z_o : Nat) (zp_o : Nat) (z_gave_a : Nat) (z_giver_a : Nat) (z_aims_a : Nat) (z_got_a : Nat) (z_lumps_a : Nat) (z_left : Int32) (z_lumpCount : Int32) (z_ringed : Int32) (z_gave : Nat → Int32) (z_giver : Nat → Int32) (x1 : Int32) {ρ : Type} (N : Nat) (k : Int32 → (Nat → Int32) → Option ρ) (res : ρ) (h : f_X6_letOut N z_left z_gave z_giver x1 k = some res) : Cv l yX6_letOut (WS yX6_letOut cX6_letOut 2 none) rm_X6_letOut (dC, dI) (tysG cI cZ cQ cW) E0 [.ref z_o, .int x1] (w_X6_letOut cI cZ cQ cW z_o zp_o z_gave_a z_giver_a z_aims_a z_got_a z_lumps_a z_left z_lumpCount z_ringed z_gave z_giver) (fun (u : Int32 × (Nat → Int32)) => (w_X6_letOut cI cZ cQ cW z_o zp_o z_gave_a z_giver_a z_aims_a z_got_a z_lumps_a u.1 z_lumpCount z_ringed z_gave u.2)) (fun u => k u.1 u.2 = some res) := by
  refine Cv.of (cc := cX6_letOut) (n := 2) (by decide +kernel) (Nat.le_of_ble_eq_true rfl) ?_
  intro p e s m args below meth c A ls Q B hW hE hS hl hQ
  have hx := B.1
  have hb := B.2.1
  have hl : lv_has ls 2 [(0, .ref z_o), (1, .int x1)] := hl
  unfold f_X6_letOut at h
  refine lv_aload_n (pc := 0) hx hb (tb_at tk_X6_letOut 0 rfl) rfl (lv_at hl 0 rfl) ?_
  refine lv_dup (pc := 1) hx hb (tb_at tk_X6_letOut 1 rfl) rfl ?_
  refine k_get (pc := 2) (v := .int z_left) (T := TX6) B inG6 hW 0 rfl rfl 4 (by decide) q_f_X6_35 rfl rfl (tb_at tk_X6_letOut 2 rfl) ?_
  refine lv_iconst (pc := 5) (v := 1) hx hb (tb_at tk_X6_letOut 3 rfl) (by decide) ?_
  refine lv_iload_n (pc := 6) hx hb (tb_at tk_X6_letOut 4 rfl) rfl (lv_at hl 1 rfl) ?_
  refine lv_ishl (pc := 7) hx hb (tb_at tk_X6_letOut 5 rfl) ?_
  refine lv_iconst (pc := 8) (v := (-1)) hx hb (tb_at tk_X6_letOut 6 rfl) (by decide) ?_
  refine lv_ixor (pc := 9) hx hb (tb_at tk_X6_letOut 7 rfl) ?_
  refine lv_iand (pc := 10) hx hb (tb_at tk_X6_letOut 8 rfl) ?_
  refine k_put (pc := 11) (T := TX6) B inG6 tyX6 tyX6_ok nmX6 hW hS 0 rfl rfl 4 (by decide) q_f_X6_35 rfl rfl rfl rfl (Nat.le_of_ble_eq_true rfl) (tb_at tk_X6_letOut 9 rfl) (w_X6_letOut cI cZ cQ cW z_o zp_o z_gave_a z_giver_a z_aims_a z_got_a z_lumps_a (z_left &&& (((1 : Int32) <<< (x1 &&& 31)) ^^^ (-1))) z_lumpCount z_ringed z_gave z_giver) rfl (fun H locs hW hS => ?_)
  refine lv_aload_n (pc := 14) hx hb (tb_at tk_X6_letOut 10 rfl) rfl (lv_at hl 0 rfl) ?_
  refine k_get (pc := 15) (v := .ref z_giver_a) (T := TX6) B inG6 hW 0 rfl rfl 2 (by decide) q_f_X6_15 rfl rfl (tb_at tk_X6_letOut 11 rfl) ?_
  refine lv_aload_n (pc := 18) hx hb (tb_at tk_X6_letOut 12 rfl) rfl (lv_at hl 0 rfl) ?_
  refine k_get (pc := 19) (v := .ref z_gave_a) (T := TX6) B inG6 hW 0 rfl rfl 1 (by decide) q_f_X6_9 rfl rfl (tb_at tk_X6_letOut 13 rfl) ?_
  refine lv_iload_n (pc := 22) hx hb (tb_at tk_X6_letOut 14 rfl) rfl (lv_at hl 1 rfl) ?_
  have ii := ivi_in (ck_l h)
  have h := ck_r h
  refine k_iald (pc := 23) B hW 1 0 rfl rfl ii (tb_at tk_X6_letOut 15 rfl) ?_
  refine lv_iconst (pc := 24) (v := (-1)) hx hb (tb_at tk_X6_letOut 16 rfl) (by decide) ?_
  have ii := ivi_in (ck_l h)
  have h := ck_r h
  refine k_iast (pc := 25) B hW hS 2 0 rfl rfl ii (tb_at tk_X6_letOut 17 rfl) (w_X6_letOut cI cZ cQ cW z_o zp_o z_gave_a z_giver_a z_aims_a z_got_a z_lumps_a (z_left &&& (((1 : Int32) <<< (x1 &&& 31)) ^^^ (-1))) z_lumpCount z_ringed z_gave (upd z_giver (z_gave (x1).toNatClampNeg).toNatClampNeg (-1))) rfl (fun H locs hW hS => ?_)
  exact hQ (z_left &&& (((1 : Int32) <<< (x1 &&& 31)) ^^^ (-1)), upd z_giver (z_gave (x1).toNatClampNeg).toNatClampNeg (-1)) _ _ _ 26 h hW hS (tb_at tk_X6_letOut 18 rfl)
def f_X6_goRound_e85 {ρ : Type} (z_ringed : Int32) (k : Int32 → Int32 → (Nat → Int32) → (Nat → Int32) → Option ρ) (y2_e85 : Int32) (z_left_e85 : Int32) (z_got_e85 : Nat → Int32) (z_giver_e85 : Nat → Int32) : Option ρ := k z_left_e85 (z_ringed ||| y2_e85) z_got_e85 z_giver_e85
def f_X6_goRound_l30 {ρ : Type} (z_aims : Nat → Int32) (z_gave : Nat → Int32) (k85 : Int32 → Int32 → (Nat → Int32) → (Nat → Int32) → Option ρ) (N : Nat) : Nat → Int32 → Int32 → Int32 → Int32 → (Nat → Int32) → (Nat → Int32) → Option ρ
  | 0, _, _, _, _, _, _ => none
  | n30 + 1, y1_l30, y2_l30, y3_l30, z_left_l30, z_got_l30, z_giver_l30 => if 6 ≤ y3_l30 then (k85 y2_l30 z_left_l30 z_got_l30 z_giver_l30) else (f_X7_holds N y2_l30 y1_l30 (fun r38 => if r38 = 0 then (ck (ivi y1_l30 6) (ck (ivi (z_aims (y1_l30).toNatClampNeg) 6) (ck (ivi y1_l30 6) (f_X6_letOut N z_left_l30 z_gave z_giver_l30 y1_l30 (fun z_left_69 z_giver_69 => ck (ivi y1_l30 6) ((f_X6_goRound_l30 z_aims z_gave k85 N n30) (z_aims (y1_l30).toNatClampNeg) (y2_l30 ||| ((1 : Int32) <<< (y1_l30 &&& 31))) (y3_l30 + 1) z_left_69 (upd z_got_l30 (y1_l30).toNatClampNeg (z_gave (z_aims (y1_l30).toNatClampNeg).toNatClampNeg)) z_giver_69)))))) else (k85 y2_l30 z_left_l30 z_got_l30 z_giver_l30)))
def f_X6_goRound_e26 {ρ : Type} (z_got : Nat → Int32) (z_left : Int32) (z_giver : Nat → Int32) (z_ringed : Int32) (z_aims : Nat → Int32) (z_gave : Nat → Int32) (k : Int32 → Int32 → (Nat → Int32) → (Nat → Int32) → Option ρ) (N : Nat) (y1_e26 : Int32) : Option ρ := f_X6_goRound_l30 z_aims z_gave (fun y2_e85 z_left_e85 z_got_e85 z_giver_e85 => f_X6_goRound_e85 z_ringed k y2_e85 z_left_e85 z_got_e85 z_giver_e85) N N y1_e26 0 0 z_left z_got z_giver
def f_X6_goRound_l7 {ρ : Type} (z_aims : Nat → Int32) (k26 : Int32 → Option ρ) : Nat → Int32 → Int32 → Option ρ
  | 0, _, _ => none
  | n7 + 1, y1_l7, y2_l7 => if 6 ≤ y2_l7 then (k26 y1_l7) else (ck (ivi y1_l7 6) ((f_X6_goRound_l7 z_aims k26 n7) (z_aims (y1_l7).toNatClampNeg) (y2_l7 + 1)))
def f_X6_goRound {ρ : Type} (N : Nat) (z_left : Int32) (z_ringed : Int32) (z_aims : Nat → Int32) (z_gave : Nat → Int32) (z_got : Nat → Int32) (z_giver : Nat → Int32) (k : Int32 → Int32 → (Nat → Int32) → (Nat → Int32) → Option ρ) : Option ρ := f_X6_lowestLeft N z_left (fun r1 => f_X6_goRound_l7 z_aims (fun y1_e26 => f_X6_goRound_e26 z_got z_left z_giver z_ringed z_aims z_gave k N y1_e26) N r1 0)
abbrev w_X6_goRound (cI cZ cQ cW : ClassId) (z_o : Nat) (zp_o : Nat) (z_gave_a : Nat) (z_giver_a : Nat) (z_aims_a : Nat) (z_got_a : Nat) (z_lumps_a : Nat) (z_left : Int32) (z_lumpCount : Int32) (z_ringed : Int32) (z_aims : Nat → Int32) (z_gave : Nat → Int32) (z_got : Nat → Int32) (z_giver : Nat → Int32) : va_W := [(z_o, .inr (6, [.ref zp_o, .ref z_gave_a, .ref z_giver_a, .ref z_aims_a, .int z_left, .ref z_got_a, .ref z_lumps_a, .int z_lumpCount, .int z_ringed])), (z_aims_a, .inl (cI, 6, .inl z_aims)), (z_gave_a, .inl (cI, 6, .inl z_gave)), (z_got_a, .inl (cI, 6, .inl z_got)), (z_giver_a, .inl (cI, 6, .inl z_giver))]
abbrev rm_X6_goRound : Room := { frames := 2, cells := 0, slots := 0, locals := 42 }
set_option maxHeartbeats 4000000 in
set_option maxRecDepth 100000 in
theorem c_X6_goRound (l : Launch) (dC : Nat → ClassId) (dI : Nat → Nat → Nat) (cI cZ cQ cW : ClassId) (z_o : Nat) (zp_o : Nat) (z_gave_a : Nat) (z_giver_a : Nat) (z_aims_a : Nat) (z_got_a : Nat) (z_lumps_a : Nat) (z_left : Int32) (z_lumpCount : Int32) (z_ringed : Int32) (z_aims : Nat → Int32) (z_gave : Nat → Int32) (z_got : Nat → Int32) (z_giver : Nat → Int32) {ρ : Type} (N : Nat) (k : Int32 → Int32 → (Nat → Int32) → (Nat → Int32) → Option ρ) (res : ρ) (h : f_X6_goRound N z_left z_ringed z_aims z_gave z_got z_giver k = some res) : Cv l yX6_goRound (WS yX6_goRound cX6_goRound 4 none) rm_X6_goRound (dC, dI) (tysG cI cZ cQ cW) E0 [.ref z_o] (w_X6_goRound cI cZ cQ cW z_o zp_o z_gave_a z_giver_a z_aims_a z_got_a z_lumps_a z_left z_lumpCount z_ringed z_aims z_gave z_got z_giver) (fun (u : Int32 × Int32 × (Nat → Int32) × (Nat → Int32)) => (w_X6_goRound cI cZ cQ cW z_o zp_o z_gave_a z_giver_a z_aims_a z_got_a z_lumps_a u.1 z_lumpCount u.2.1 z_aims z_gave u.2.2.1 u.2.2.2)) (fun u => k u.1 u.2.1 u.2.2.1 u.2.2.2 = some res) := by
  refine Cv.of (cc := cX6_goRound) (n := 4) (by decide +kernel) (Nat.le_of_ble_eq_true rfl) ?_
  intro p e s m args below meth c A ls Q B hW hE hS hl hQ
  have hx := B.1
  have hb := B.2.1
  have hl : lv_has ls 4 [(0, .ref z_o)] := hl
  unfold f_X6_goRound at h
  refine lv_aload_n (pc := 0) hx hb (tb_at tk_X6_goRound 0 rfl) rfl (lv_at hl 0 rfl) ?_
  refine k_calli (pc := 1) B (k_runVi (rest := []) (C := RX6) B (c_X6_lowestLeft l dC dI cI cZ cQ cW z_o zp_o z_gave_a z_giver_a z_aims_a z_got_a z_lumps_a z_left z_lumpCount z_ringed  N _ res h) E0_st (fun _ _ _ => trivial) q_c_X6_lowestLeft q_m_X6_95 q_i_X6_lowestLeft q_s_X6_lowestLeft q_n_X6 hd_X6_lowestLeft ⟨rfl, rfl⟩ ⟨Nat.le_of_ble_eq_true rfl, Nat.le_of_ble_eq_true rfl⟩ hW [0] rfl (by decide +kernel) (q0 := 0) (ci := 6) rfl rfl rfl hl.1 rfl (Nat.le_of_ble_eq_true rfl) (tb_at tk_X6_goRound 1 rfl) ⟨Nat.zero_le _, Nat.zero_le _⟩) hW hS [0] rfl [z_o] rfl (fun _ => rfl) [some 0, none, none, none, none] (by decide +kernel) (fun _ => (w_X6_goRound cI cZ cQ cW z_o zp_o z_gave_a z_giver_a z_aims_a z_got_a z_lumps_a z_left z_lumpCount z_ringed z_aims z_gave z_got z_giver)) (fun _ => rfl) (fun r1 u H locs h hW hS => ?_)
  have hW : PD (dC, dI) A (w_X6_goRound cI cZ cQ cW z_o zp_o z_gave_a z_giver_a z_aims_a z_got_a z_lumps_a z_left z_lumpCount z_ringed z_aims z_gave z_got z_giver) H := hW
  refine lv_istore_n (pc := 4) (lv' := [(1, .int r1), (0, .ref z_o)]) hx hb (tb_at tk_X6_goRound 2 rfl) rfl hl (by decide) rfl (fun ls hl => ?_)
  refine lv_iconst (pc := 5) (v := 0) hx hb (tb_at tk_X6_goRound 3 rfl) (by decide) ?_
  refine lv_istore_n (pc := 6) (lv' := [(2, .int 0), (1, .int r1), (0, .ref z_o)]) hx hb (tb_at tk_X6_goRound 4 rfl) rfl hl (by decide) rfl (fun ls hl => ?_)
  have w26 : ∀ (y1_e26 : Int32) (H : Heap) (locs : List Loc) (ls : Array Slot), f_X6_goRound_e26 z_got z_left z_giver z_ringed z_aims z_gave k N y1_e26 = some res → PD (dC, dI) A (w_X6_goRound cI cZ cQ cW z_o zp_o z_gave_a z_giver_a z_aims_a z_got_a z_lumps_a z_left z_lumpCount z_ringed z_aims z_gave z_got z_giver) H → va_S A s.heap H locs → lv_has ls 4 [(0, .ref z_o), (1, .int y1_e26)] → W p l e rm_X6_goRound s m args below meth c H locs 0 0 Q (F0 m 26 ls []) := by
    intro y1_e26 H locs ls h hW hS hl
    unfold f_X6_goRound_e26 at h
    refine lv_iconst (pc := 26) (v := 0) hx hb (tb_at tk_X6_goRound 15 rfl) (by decide) ?_
    refine lv_istore_n (pc := 27) (lv' := [(2, .int 0), (0, .ref z_o), (1, .int y1_e26)]) hx hb (tb_at tk_X6_goRound 16 rfl) rfl hl (by decide) rfl (fun ls hl => ?_)
    refine lv_iconst (pc := 28) (v := 0) hx hb (tb_at tk_X6_goRound 17 rfl) (by decide) ?_
    refine lv_istore_n (pc := 29) (lv' := [(3, .int 0), (2, .int 0), (0, .ref z_o), (1, .int y1_e26)]) hx hb (tb_at tk_X6_goRound 18 rfl) rfl hl (by decide) rfl (fun ls hl => ?_)
    have w85 : ∀ (y2_e85 : Int32) (z_left_e85 : Int32) (z_got_e85 : Nat → Int32) (z_giver_e85 : Nat → Int32) (H : Heap) (locs : List Loc) (ls : Array Slot), f_X6_goRound_e85 z_ringed k y2_e85 z_left_e85 z_got_e85 z_giver_e85 = some res → PD (dC, dI) A (w_X6_goRound cI cZ cQ cW z_o zp_o z_gave_a z_giver_a z_aims_a z_got_a z_lumps_a z_left_e85 z_lumpCount z_ringed z_aims z_gave z_got_e85 z_giver_e85) H → va_S A s.heap H locs → lv_has ls 4 [(0, .ref z_o), (2, .int y2_e85)] → W p l e rm_X6_goRound s m args below meth c H locs 0 0 Q (F0 m 85 ls []) := by
      intro y2_e85 z_left_e85 z_got_e85 z_giver_e85 H locs ls h hW hS hl
      unfold f_X6_goRound_e85 at h
      refine lv_aload_n (pc := 85) hx hb (tb_at tk_X6_goRound 53 rfl) rfl (lv_at hl 0 rfl) ?_
      refine lv_dup (pc := 86) hx hb (tb_at tk_X6_goRound 54 rfl) rfl ?_
      refine k_get (pc := 87) (v := .int z_ringed) (T := TX6) B inG6 hW 0 rfl rfl 8 (by decide) q_f_X6_53 rfl rfl (tb_at tk_X6_goRound 55 rfl) ?_
      refine lv_iload_n (pc := 90) hx hb (tb_at tk_X6_goRound 56 rfl) rfl (lv_at hl 1 rfl) ?_
      refine lv_ior (pc := 91) hx hb (tb_at tk_X6_goRound 57 rfl) ?_
      refine k_put (pc := 92) (T := TX6) B inG6 tyX6 tyX6_ok nmX6 hW hS 0 rfl rfl 8 (by decide) q_f_X6_53 rfl rfl rfl rfl (Nat.le_of_ble_eq_true rfl) (tb_at tk_X6_goRound 58 rfl) (w_X6_goRound cI cZ cQ cW z_o zp_o z_gave_a z_giver_a z_aims_a z_got_a z_lumps_a z_left_e85 z_lumpCount (z_ringed ||| y2_e85) z_aims z_gave z_got_e85 z_giver_e85) rfl (fun H locs hW hS => ?_)
      exact hQ (z_left_e85, z_ringed ||| y2_e85, z_got_e85, z_giver_e85) _ _ _ 95 h hW hS (tb_at tk_X6_goRound 59 rfl)
    have w30 : ∀ (n : Nat), ∀ (y1_l30 : Int32) (y2_l30 : Int32) (y3_l30 : Int32) (z_left_l30 : Int32) (z_got_l30 : Nat → Int32) (z_giver_l30 : Nat → Int32) (H : Heap) (locs : List Loc) (ls : Array Slot), f_X6_goRound_l30 z_aims z_gave (fun y2_e85 z_left_e85 z_got_e85 z_giver_e85 => f_X6_goRound_e85 z_ringed k y2_e85 z_left_e85 z_got_e85 z_giver_e85) N n y1_l30 y2_l30 y3_l30 z_left_l30 z_got_l30 z_giver_l30 = some res → PD (dC, dI) A (w_X6_goRound cI cZ cQ cW z_o zp_o z_gave_a z_giver_a z_aims_a z_got_a z_lumps_a z_left_l30 z_lumpCount z_ringed z_aims z_gave z_got_l30 z_giver_l30) H → va_S A s.heap H locs → lv_has ls 4 [(0, .ref z_o), (1, .int y1_l30), (2, .int y2_l30), (3, .int y3_l30)] → W p l e rm_X6_goRound s m args below meth c H locs 0 0 Q (F0 m 30 ls []) := by
      intro n
      induction n with
      | zero => intro y1_l30 y2_l30 y3_l30 z_left_l30 z_got_l30 z_giver_l30 H locs ls h; exact no_n h
      | succ n30 ih30 =>
        intro y1_l30 y2_l30 y3_l30 z_left_l30 z_got_l30 z_giver_l30 H locs ls h hW hS hl
        rw [f_X6_goRound_l30] at h
        refine lv_iload_n (pc := 30) hx hb (tb_at tk_X6_goRound 19 rfl) rfl (lv_at hl 3 rfl) ?_
        refine lv_bipush (pc := 31) (v := 6) hx hb (tb_at tk_X6_goRound 20 rfl) (by decide) ?_
        refine lv_icmp_ge (pc := 33) (tgt := 85) hx hb (tb_at tk_X6_goRound 21 rfl) (by decide) (fun cc => ?_) (fun cc => ?_)
        · have h := it_t cc h
          exact w85 y2_l30 z_left_l30 z_got_l30 z_giver_l30 _ _ _ h hW hS (lv_sub hl [0, 2] rfl)
        · have h := it_f cc h
          refine lv_iload_n (pc := 36) hx hb (tb_at tk_X6_goRound 22 rfl) rfl (lv_at hl 2 rfl) ?_
          refine lv_iload_n (pc := 37) hx hb (tb_at tk_X6_goRound 23 rfl) rfl (lv_at hl 1 rfl) ?_
          refine k_call0 (pc := 38) B (k_runNi (rest := []) (host := RX7) B (c_X7_holds l dC dI cI cZ cQ cW   y2_l30 y1_l30 N _ res h) E0_st (fun _ _ _ => trivial) q_c_X7_holds q_h_X6_61 q_t_X7_holds q_n_X7 hd_X7_holds ⟨rfl, rfl⟩ ⟨Nat.le_of_ble_eq_true rfl, Nat.le_of_ble_eq_true rfl⟩ hW [] rfl (by decide +kernel) rfl hl.1 rfl (Nat.le_of_ble_eq_true rfl) (tb_at tk_X6_goRound 24 rfl) ⟨Nat.zero_le _, Nat.zero_le _⟩) hW hS (fun r38 u H locs h hW hS => ?_)
          refine lv_if_ne (pc := 41) (tgt := 85) hx hb (tb_at tk_X6_goRound 25 rfl) (by decide) (fun cc => ?_) (fun cc => ?_)
          · have h := it_f cc h
            exact w85 y2_l30 z_left_l30 z_got_l30 z_giver_l30 _ _ _ h hW hS (lv_sub hl [0, 2] rfl)
          · have h := it_t cc h
            refine lv_iload_n (pc := 44) hx hb (tb_at tk_X6_goRound 26 rfl) rfl (lv_at hl 2 rfl) ?_
            refine lv_iconst (pc := 45) (v := 1) hx hb (tb_at tk_X6_goRound 27 rfl) (by decide) ?_
            refine lv_iload_n (pc := 46) hx hb (tb_at tk_X6_goRound 28 rfl) rfl (lv_at hl 1 rfl) ?_
            refine lv_ishl (pc := 47) hx hb (tb_at tk_X6_goRound 29 rfl) ?_
            refine lv_ior (pc := 48) hx hb (tb_at tk_X6_goRound 30 rfl) ?_
            refine lv_istore_n (pc := 49) (lv' := [(2, .int (y2_l30 ||| ((1 : Int32) <<< (y1_l30 &&& 31)))), (0, .ref z_o), (1, .int y1_l30), (3, .int y3_l30)]) hx hb (tb_at tk_X6_goRound 31 rfl) rfl hl (by decide) rfl (fun ls hl => ?_)
            refine lv_aload_n (pc := 50) hx hb (tb_at tk_X6_goRound 32 rfl) rfl (lv_at hl 1 rfl) ?_
            refine k_get (pc := 51) (v := .ref z_got_a) (T := TX6) B inG6 hW 0 rfl rfl 5 (by decide) q_f_X6_21 rfl rfl (tb_at tk_X6_goRound 33 rfl) ?_
            refine lv_iload_n (pc := 54) hx hb (tb_at tk_X6_goRound 34 rfl) rfl (lv_at hl 2 rfl) ?_
            refine lv_aload_n (pc := 55) hx hb (tb_at tk_X6_goRound 35 rfl) rfl (lv_at hl 1 rfl) ?_
            refine k_get (pc := 56) (v := .ref z_gave_a) (T := TX6) B inG6 hW 0 rfl rfl 1 (by decide) q_f_X6_9 rfl rfl (tb_at tk_X6_goRound 36 rfl) ?_
            refine lv_aload_n (pc := 59) hx hb (tb_at tk_X6_goRound 37 rfl) rfl (lv_at hl 1 rfl) ?_
            refine k_get (pc := 60) (v := .ref z_aims_a) (T := TX6) B inG6 hW 0 rfl rfl 3 (by decide) q_f_X6_18 rfl rfl (tb_at tk_X6_goRound 38 rfl) ?_
            refine lv_iload_n (pc := 63) hx hb (tb_at tk_X6_goRound 39 rfl) rfl (lv_at hl 2 rfl) ?_
            have ii := ivi_in (ck_l h)
            have h := ck_r h
            refine k_iald (pc := 64) B hW 1 0 rfl rfl ii (tb_at tk_X6_goRound 40 rfl) ?_
            have ii := ivi_in (ck_l h)
            have h := ck_r h
            refine k_iald (pc := 65) B hW 2 0 rfl rfl ii (tb_at tk_X6_goRound 41 rfl) ?_
            have ii := ivi_in (ck_l h)
            have h := ck_r h
            refine k_iast (pc := 66) B hW hS 3 0 rfl rfl ii (tb_at tk_X6_goRound 42 rfl) (w_X6_goRound cI cZ cQ cW z_o zp_o z_gave_a z_giver_a z_aims_a z_got_a z_lumps_a z_left_l30 z_lumpCount z_ringed z_aims z_gave (upd z_got_l30 (y1_l30).toNatClampNeg (z_gave (z_aims (y1_l30).toNatClampNeg).toNatClampNeg)) z_giver_l30) rfl (fun H locs hW hS => ?_)
            refine lv_aload_n (pc := 67) hx hb (tb_at tk_X6_goRound 43 rfl) rfl (lv_at hl 1 rfl) ?_
            refine lv_iload_n (pc := 68) hx hb (tb_at tk_X6_goRound 44 rfl) rfl (lv_at hl 2 rfl) ?_
            refine k_callv (pc := 69) B (k_runVv (rest := []) (C := RX6) B (c_X6_letOut l dC dI cI cZ cQ cW z_o zp_o z_gave_a z_giver_a z_aims_a z_got_a z_lumps_a z_left_l30 z_lumpCount z_ringed z_gave z_giver_l30 y1_l30 N _ res h) E0_st (fun _ _ _ => trivial) q_c_X6_letOut q_m_X6_92 q_i_X6_letOut q_s_X6_letOut q_n_X6 hd_X6_letOut ⟨rfl, rfl⟩ ⟨Nat.le_of_ble_eq_true rfl, Nat.le_of_ble_eq_true rfl⟩ hW [0, 2, 4] rfl (by decide +kernel) (q0 := 0) (ci := 6) rfl rfl rfl hl.1 rfl (Nat.le_of_ble_eq_true rfl) (tb_at tk_X6_goRound 45 rfl) ⟨Nat.zero_le _, Nat.zero_le _⟩) hW hS [0, 2, 4] rfl [z_o, z_gave_a, z_giver_a] rfl (fun _ => rfl) [some 0, none, some 1, none, some 2] (by decide +kernel) (fun u => (w_X6_goRound cI cZ cQ cW z_o zp_o z_gave_a z_giver_a z_aims_a z_got_a z_lumps_a u.1 z_lumpCount z_ringed z_aims z_gave (upd z_got_l30 (y1_l30).toNatClampNeg (z_gave (z_aims (y1_l30).toNatClampNeg).toNatClampNeg)) u.2)) (fun _ => rfl) (fun u H locs h hW hS => ?_)
            obtain ⟨z_left_69, z_giver_69⟩ := u
            dsimp only at h
            have hW : PD (dC, dI) A (w_X6_goRound cI cZ cQ cW z_o zp_o z_gave_a z_giver_a z_aims_a z_got_a z_lumps_a z_left_69 z_lumpCount z_ringed z_aims z_gave (upd z_got_l30 (y1_l30).toNatClampNeg (z_gave (z_aims (y1_l30).toNatClampNeg).toNatClampNeg)) z_giver_69) H := hW
            refine lv_aload_n (pc := 72) hx hb (tb_at tk_X6_goRound 46 rfl) rfl (lv_at hl 1 rfl) ?_
            refine k_get (pc := 73) (v := .ref z_aims_a) (T := TX6) B inG6 hW 0 rfl rfl 3 (by decide) q_f_X6_18 rfl rfl (tb_at tk_X6_goRound 47 rfl) ?_
            refine lv_iload_n (pc := 76) hx hb (tb_at tk_X6_goRound 48 rfl) rfl (lv_at hl 2 rfl) ?_
            have ii := ivi_in (ck_l h)
            have h := ck_r h
            refine k_iald (pc := 77) B hW 1 0 rfl rfl ii (tb_at tk_X6_goRound 49 rfl) ?_
            refine lv_istore_n (pc := 78) (lv' := [(1, .int (z_aims (y1_l30).toNatClampNeg)), (2, .int (y2_l30 ||| ((1 : Int32) <<< (y1_l30 &&& 31)))), (0, .ref z_o), (3, .int y3_l30)]) hx hb (tb_at tk_X6_goRound 50 rfl) rfl hl (by decide) rfl (fun ls hl => ?_)
            refine lv_iinc (pc := 79) (v := y3_l30 + 1) (lv' := [(3, .int (y3_l30 + 1)), (1, .int (z_aims (y1_l30).toNatClampNeg)), (2, .int (y2_l30 ||| ((1 : Int32) <<< (y1_l30 &&& 31)))), (0, .ref z_o)]) hx hb (tb_at tk_X6_goRound 51 rfl) hl (k := 3) rfl rfl (by decide) rfl (fun ls hl => ?_)
            refine lv_goto (pc := 82) (tgt := 30) hx hb (tb_at tk_X6_goRound 52 rfl) (by decide) ?_
            exact ih30 (z_aims (y1_l30).toNatClampNeg) (y2_l30 ||| ((1 : Int32) <<< (y1_l30 &&& 31))) (y3_l30 + 1) z_left_69 (upd z_got_l30 (y1_l30).toNatClampNeg (z_gave (z_aims (y1_l30).toNatClampNeg).toNatClampNeg)) z_giver_69 _ _ _ h hW hS (lv_sub hl [3, 1, 2, 0] rfl)
    exact w30 N y1_e26 0 0 z_left z_got z_giver _ _ _ h hW hS (lv_sub hl [2, 3, 1, 0] rfl)
  have w7 : ∀ (n : Nat), ∀ (y1_l7 : Int32) (y2_l7 : Int32) (H : Heap) (locs : List Loc) (ls : Array Slot), f_X6_goRound_l7 z_aims (fun y1_e26 => f_X6_goRound_e26 z_got z_left z_giver z_ringed z_aims z_gave k N y1_e26) n y1_l7 y2_l7 = some res → PD (dC, dI) A (w_X6_goRound cI cZ cQ cW z_o zp_o z_gave_a z_giver_a z_aims_a z_got_a z_lumps_a z_left z_lumpCount z_ringed z_aims z_gave z_got z_giver) H → va_S A s.heap H locs → lv_has ls 4 [(0, .ref z_o), (1, .int y1_l7), (2, .int y2_l7)] → W p l e rm_X6_goRound s m args below meth c H locs 0 0 Q (F0 m 7 ls []) := by
    intro n
    induction n with
    | zero => intro y1_l7 y2_l7 H locs ls h; exact no_n h
    | succ n7 ih7 =>
      intro y1_l7 y2_l7 H locs ls h hW hS hl
      rw [f_X6_goRound_l7] at h
      refine lv_iload_n (pc := 7) hx hb (tb_at tk_X6_goRound 5 rfl) rfl (lv_at hl 2 rfl) ?_
      refine lv_bipush (pc := 8) (v := 6) hx hb (tb_at tk_X6_goRound 6 rfl) (by decide) ?_
      refine lv_icmp_ge (pc := 10) (tgt := 26) hx hb (tb_at tk_X6_goRound 7 rfl) (by decide) (fun cc => ?_) (fun cc => ?_)
      · have h := it_t cc h
        exact w26 y1_l7 _ _ _ h hW hS (lv_sub hl [0, 1] rfl)
      · have h := it_f cc h
        refine lv_aload_n (pc := 13) hx hb (tb_at tk_X6_goRound 8 rfl) rfl (lv_at hl 0 rfl) ?_
        refine k_get (pc := 14) (v := .ref z_aims_a) (T := TX6) B inG6 hW 0 rfl rfl 3 (by decide) q_f_X6_18 rfl rfl (tb_at tk_X6_goRound 9 rfl) ?_
        refine lv_iload_n (pc := 17) hx hb (tb_at tk_X6_goRound 10 rfl) rfl (lv_at hl 1 rfl) ?_
        have ii := ivi_in (ck_l h)
        have h := ck_r h
        refine k_iald (pc := 18) B hW 1 0 rfl rfl ii (tb_at tk_X6_goRound 11 rfl) ?_
        refine lv_istore_n (pc := 19) (lv' := [(1, .int (z_aims (y1_l7).toNatClampNeg)), (0, .ref z_o), (2, .int y2_l7)]) hx hb (tb_at tk_X6_goRound 12 rfl) rfl hl (by decide) rfl (fun ls hl => ?_)
        refine lv_iinc (pc := 20) (v := y2_l7 + 1) (lv' := [(2, .int (y2_l7 + 1)), (1, .int (z_aims (y1_l7).toNatClampNeg)), (0, .ref z_o)]) hx hb (tb_at tk_X6_goRound 13 rfl) hl (k := 2) rfl rfl (by decide) rfl (fun ls hl => ?_)
        refine lv_goto (pc := 23) (tgt := 7) hx hb (tb_at tk_X6_goRound 14 rfl) (by decide) ?_
        exact ih7 (z_aims (y1_l7).toNatClampNeg) (y2_l7 + 1) _ _ _ h hW hS (lv_sub hl [2, 1, 0] rfl)
  exact w7 N r1 0 _ _ _ h hW hS (lv_sub hl [2, 1, 0] rfl)
def f_X6_smash {ρ : Type} (N : Nat) (z_left : Int32) (z_lumpCount : Int32) (z_gave : Nat → Int32) (z_lumps : Nat → Int32) (z_giver : Nat → Int32) (x1 : Int32) (k : Int32 → Int32 → (Nat → Int32) → (Nat → Int32) → Option ρ) : Option ρ := ck (ivi x1 6) (ck (ivi z_lumpCount 6) (f_X6_letOut N z_left z_gave z_giver x1 (fun z_left_27 z_giver_27 => k z_left_27 (z_lumpCount + 1) (upd z_lumps (z_lumpCount).toNatClampNeg (z_gave (x1).toNatClampNeg)) z_giver_27)))
abbrev w_X6_smash (cI cZ cQ cW : ClassId) (z_o : Nat) (zp_o : Nat) (z_gave_a : Nat) (z_giver_a : Nat) (z_aims_a : Nat) (z_got_a : Nat) (z_lumps_a : Nat) (z_left : Int32) (z_lumpCount : Int32) (z_ringed : Int32) (z_gave : Nat → Int32) (z_lumps : Nat → Int32) (z_giver : Nat → Int32) : va_W := [(z_o, .inr (6, [.ref zp_o, .ref z_gave_a, .ref z_giver_a, .ref z_aims_a, .int z_left, .ref z_got_a, .ref z_lumps_a, .int z_lumpCount, .int z_ringed])), (z_gave_a, .inl (cI, 6, .inl z_gave)), (z_lumps_a, .inl (cI, 6, .inl z_lumps)), (z_giver_a, .inl (cI, 6, .inl z_giver))]
abbrev rm_X6_smash : Room := { frames := 1, cells := 0, slots := 0, locals := 21 }
set_option maxHeartbeats 4000000 in
set_option maxRecDepth 100000 in
theorem c_X6_smash (l : Launch) (dC : Nat → ClassId) (dI : Nat → Nat → Nat) (cI cZ cQ cW : ClassId) (z_o : Nat) (zp_o : Nat) (z_gave_a : Nat) (z_giver_a : Nat) (z_aims_a : Nat) (z_got_a : Nat) (z_lumps_a : Nat) (z_left : Int32) (z_lumpCount : Int32) (z_ringed : Int32) (z_gave : Nat → Int32) (z_lumps : Nat → Int32) (z_giver : Nat → Int32) (x1 : Int32) {ρ : Type} (N : Nat) (k : Int32 → Int32 → (Nat → Int32) → (Nat → Int32) → Option ρ) (res : ρ) (h : f_X6_smash N z_left z_lumpCount z_gave z_lumps z_giver x1 k = some res) : Cv l yX6_smash (WS yX6_smash cX6_smash 2 none) rm_X6_smash (dC, dI) (tysG cI cZ cQ cW) E0 [.ref z_o, .int x1] (w_X6_smash cI cZ cQ cW z_o zp_o z_gave_a z_giver_a z_aims_a z_got_a z_lumps_a z_left z_lumpCount z_ringed z_gave z_lumps z_giver) (fun (u : Int32 × Int32 × (Nat → Int32) × (Nat → Int32)) => (w_X6_smash cI cZ cQ cW z_o zp_o z_gave_a z_giver_a z_aims_a z_got_a z_lumps_a u.1 u.2.1 z_ringed z_gave u.2.2.1 u.2.2.2)) (fun u => k u.1 u.2.1 u.2.2.1 u.2.2.2 = some res) := by
  refine Cv.of (cc := cX6_smash) (n := 2) (by decide +kernel) (Nat.le_of_ble_eq_true rfl) ?_
  intro p e s m args below meth c A ls Q B hW hE hS hl hQ
  have hx := B.1
  have hb := B.2.1
  have hl : lv_has ls 2 [(0, .ref z_o), (1, .int x1)] := hl
  unfold f_X6_smash at h
  refine lv_aload_n (pc := 0) hx hb (tb_at tk_X6_smash 0 rfl) rfl (lv_at hl 0 rfl) ?_
  refine k_get (pc := 1) (v := .ref z_lumps_a) (T := TX6) B inG6 hW 0 rfl rfl 6 (by decide) q_f_X6_24 rfl rfl (tb_at tk_X6_smash 1 rfl) ?_
  refine lv_aload_n (pc := 4) hx hb (tb_at tk_X6_smash 2 rfl) rfl (lv_at hl 0 rfl) ?_
  refine k_get (pc := 5) (v := .int z_lumpCount) (T := TX6) B inG6 hW 0 rfl rfl 7 (by decide) q_f_X6_50 rfl rfl (tb_at tk_X6_smash 3 rfl) ?_
  refine lv_aload_n (pc := 8) hx hb (tb_at tk_X6_smash 4 rfl) rfl (lv_at hl 0 rfl) ?_
  refine k_get (pc := 9) (v := .ref z_gave_a) (T := TX6) B inG6 hW 0 rfl rfl 1 (by decide) q_f_X6_9 rfl rfl (tb_at tk_X6_smash 5 rfl) ?_
  refine lv_iload_n (pc := 12) hx hb (tb_at tk_X6_smash 6 rfl) rfl (lv_at hl 1 rfl) ?_
  have ii := ivi_in (ck_l h)
  have h := ck_r h
  refine k_iald (pc := 13) B hW 1 0 rfl rfl ii (tb_at tk_X6_smash 7 rfl) ?_
  have ii := ivi_in (ck_l h)
  have h := ck_r h
  refine k_iast (pc := 14) B hW hS 2 0 rfl rfl ii (tb_at tk_X6_smash 8 rfl) (w_X6_smash cI cZ cQ cW z_o zp_o z_gave_a z_giver_a z_aims_a z_got_a z_lumps_a z_left z_lumpCount z_ringed z_gave (upd z_lumps (z_lumpCount).toNatClampNeg (z_gave (x1).toNatClampNeg)) z_giver) rfl (fun H locs hW hS => ?_)
  refine lv_aload_n (pc := 15) hx hb (tb_at tk_X6_smash 9 rfl) rfl (lv_at hl 0 rfl) ?_
  refine lv_dup (pc := 16) hx hb (tb_at tk_X6_smash 10 rfl) rfl ?_
  refine k_get (pc := 17) (v := .int z_lumpCount) (T := TX6) B inG6 hW 0 rfl rfl 7 (by decide) q_f_X6_50 rfl rfl (tb_at tk_X6_smash 11 rfl) ?_
  refine lv_iconst (pc := 20) (v := 1) hx hb (tb_at tk_X6_smash 12 rfl) (by decide) ?_
  refine lv_iadd (pc := 21) hx hb (tb_at tk_X6_smash 13 rfl) ?_
  refine k_put (pc := 22) (T := TX6) B inG6 tyX6 tyX6_ok nmX6 hW hS 0 rfl rfl 7 (by decide) q_f_X6_50 rfl rfl rfl rfl (Nat.le_of_ble_eq_true rfl) (tb_at tk_X6_smash 14 rfl) (w_X6_smash cI cZ cQ cW z_o zp_o z_gave_a z_giver_a z_aims_a z_got_a z_lumps_a z_left (z_lumpCount + 1) z_ringed z_gave (upd z_lumps (z_lumpCount).toNatClampNeg (z_gave (x1).toNatClampNeg)) z_giver) rfl (fun H locs hW hS => ?_)
  refine lv_aload_n (pc := 25) hx hb (tb_at tk_X6_smash 15 rfl) rfl (lv_at hl 0 rfl) ?_
  refine lv_iload_n (pc := 26) hx hb (tb_at tk_X6_smash 16 rfl) rfl (lv_at hl 1 rfl) ?_
  refine k_callv (pc := 27) B (k_runVv (rest := []) (C := RX6) B (c_X6_letOut l dC dI cI cZ cQ cW z_o zp_o z_gave_a z_giver_a z_aims_a z_got_a z_lumps_a z_left (z_lumpCount + 1) z_ringed z_gave z_giver x1 N _ res h) E0_st (fun _ _ _ => trivial) q_c_X6_letOut q_m_X6_92 q_i_X6_letOut q_s_X6_letOut q_n_X6 hd_X6_letOut ⟨rfl, rfl⟩ ⟨Nat.le_of_ble_eq_true rfl, Nat.le_of_ble_eq_true rfl⟩ hW [0, 1, 3] rfl (by decide +kernel) (q0 := 0) (ci := 6) rfl rfl rfl hl.1 rfl (Nat.le_of_ble_eq_true rfl) (tb_at tk_X6_smash 17 rfl) ⟨Nat.zero_le _, Nat.zero_le _⟩) hW hS [0, 1, 3] rfl [z_o, z_gave_a, z_giver_a] rfl (fun _ => rfl) [some 0, some 1, none, some 2] (by decide +kernel) (fun u => (w_X6_smash cI cZ cQ cW z_o zp_o z_gave_a z_giver_a z_aims_a z_got_a z_lumps_a u.1 (z_lumpCount + 1) z_ringed z_gave (upd z_lumps (z_lumpCount).toNatClampNeg (z_gave (x1).toNatClampNeg)) u.2)) (fun _ => rfl) (fun u H locs h hW hS => ?_)
  obtain ⟨z_left_27, z_giver_27⟩ := u
  dsimp only at h
  have hW : PD (dC, dI) A (w_X6_smash cI cZ cQ cW z_o zp_o z_gave_a z_giver_a z_aims_a z_got_a z_lumps_a z_left_27 (z_lumpCount + 1) z_ringed z_gave (upd z_lumps (z_lumpCount).toNatClampNeg (z_gave (x1).toNatClampNeg)) z_giver_27) H := hW
  exact hQ (z_left_27, z_lumpCount + 1, upd z_lumps (z_lumpCount).toNatClampNeg (z_gave (x1).toNatClampNeg), z_giver_27) _ _ _ 30 h hW hS (tb_at tk_X6_smash 18 rfl)
def f_X6_play_e55 {ρ : Type} (z_gave_3 : Nat → Int32) (k : Int32 → Int32 → Int32 → (Nat → Int32) → (Nat → Int32) → (Nat → Int32) → (Nat → Int32) → (Nat → Int32) → Option ρ) (z_left_e55 : Int32) (z_lumpCount_e55 : Int32) (z_ringed_e55 : Int32) (z_giver_e55 : Nat → Int32) (z_got_e55 : Nat → Int32) (z_aims_e55 : Nat → Int32) (z_lumps_e55 : Nat → Int32) : Option ρ := k z_left_e55 z_lumpCount_e55 z_ringed_e55 z_giver_e55 z_got_e55 z_gave_3 z_aims_e55 z_lumps_e55
def f_X6_play_l9 {ρ : Type} (x3 : Int32) (zp_size : Int32) (zp_wantCount : Nat → Int32) (zp_wanted : Nat → Nat → Int32) (zp_weight : Nat → Int32) (z_gave_3 : Nat → Int32) (k55 : Int32 → Int32 → Int32 → (Nat → Int32) → (Nat → Int32) → (Nat → Int32) → (Nat → Int32) → Option ρ) (N : Nat) : Nat → Int32 → Int32 → Int32 → Int32 → (Nat → Int32) → (Nat → Int32) → (Nat → Int32) → (Nat → Int32) → Option ρ
  | 0, _, _, _, _, _, _, _, _ => none
  | n9 + 1, y4_l9, z_left_l9, z_lumpCount_l9, z_ringed_l9, z_giver_l9, z_got_l9, z_aims_l9, z_lumps_l9 => if 6 ≤ y4_l9 then (k55 z_left_l9 z_lumpCount_l9 z_ringed_l9 z_giver_l9 z_got_l9 z_aims_l9 z_lumps_l9) else (if z_left_l9 = 0 then (k55 z_left_l9 z_lumpCount_l9 z_ringed_l9 z_giver_l9 z_got_l9 z_aims_l9 z_lumps_l9) else (f_X6_aimAll N z_left_l9 zp_size zp_wantCount zp_wanted z_giver_l9 zp_weight z_gave_3 z_aims_l9 x3 (fun r25 z_aims_25 => if r25 = (-1) then (f_X6_goRound N z_left_l9 z_ringed_l9 z_aims_25 z_gave_3 z_got_l9 z_giver_l9 (fun z_left_37 z_ringed_37 z_got_37 z_giver_37 => (f_X6_play_l9 x3 zp_size zp_wantCount zp_wanted zp_weight z_gave_3 k55 N n9) (y4_l9 + 1) z_left_37 z_lumpCount_l9 z_ringed_37 z_giver_37 z_got_37 z_aims_25 z_lumps_l9)) else (f_X6_smash N z_left_l9 z_lumpCount_l9 z_gave_3 z_lumps_l9 z_giver_l9 r25 (fun z_left_46 z_lumpCount_46 z_lumps_46 z_giver_46 => (f_X6_play_l9 x3 zp_size zp_wantCount zp_wanted zp_weight z_gave_3 k55 N n9) (y4_l9 + 1) z_left_46 z_lumpCount_46 z_ringed_l9 z_giver_46 z_got_l9 z_aims_25 z_lumps_46)))))
def f_X6_play {ρ : Type} (N : Nat) (z_giver : Nat → Int32) (z_got : Nat → Int32) (zp_size : Int32) (z_gave : Nat → Int32) (zp_wantCount : Nat → Int32) (zp_wanted : Nat → Nat → Int32) (zp_weight : Nat → Int32) (z_aims : Nat → Int32) (z_lumps : Nat → Int32) (b_c : Nat → Int32) (x2 : Int32) (x3 : Int32) (k : Int32 → Int32 → Int32 → (Nat → Int32) → (Nat → Int32) → (Nat → Int32) → (Nat → Int32) → (Nat → Int32) → Option ρ) : Option ρ := f_X6_lay N z_giver z_got zp_size z_gave b_c x2 (fun z_left_3 z_lumpCount_3 z_ringed_3 z_giver_3 z_got_3 z_gave_3 => f_X6_play_l9 x3 zp_size zp_wantCount zp_wanted zp_weight z_gave_3 (fun z_left_e55 z_lumpCount_e55 z_ringed_e55 z_giver_e55 z_got_e55 z_aims_e55 z_lumps_e55 => f_X6_play_e55 z_gave_3 k z_left_e55 z_lumpCount_e55 z_ringed_e55 z_giver_e55 z_got_e55 z_aims_e55 z_lumps_e55) N N 0 z_left_3 z_lumpCount_3 z_ringed_3 z_giver_3 z_got_3 z_aims z_lumps)
abbrev w_X6_play (cI cZ cQ cW : ClassId) (z_o : Nat) (zp_o : Nat) (z_gave_a : Nat) (z_giver_a : Nat) (z_aims_a : Nat) (z_got_a : Nat) (z_lumps_a : Nat) (zp_weight_a : Nat) (zp_nights_a : Nat) (zp_wanted_a : Nat) (zp_wantCount_a : Nat) (zp_wantBits_a : Nat) (zp_wanted_r : Nat → Nat) (z_left : Int32) (z_lumpCount : Int32) (z_ringed : Int32) (z_giver : Nat → Int32) (z_got : Nat → Int32) (zp_size : Int32) (zp_law : Int32) (z_gave : Nat → Int32) (zp_wantCount : Nat → Int32) (zp_wanted : Nat → Nat → Int32) (zp_weight : Nat → Int32) (z_aims : Nat → Int32) (z_lumps : Nat → Int32) : va_W := [(z_o, .inr (6, [.ref zp_o, .ref z_gave_a, .ref z_giver_a, .ref z_aims_a, .int z_left, .ref z_got_a, .ref z_lumps_a, .int z_lumpCount, .int z_ringed])), (z_giver_a, .inl (cI, 6, .inl z_giver)), (z_got_a, .inl (cI, 6, .inl z_got)), (zp_o, .inr (2, [.ref zp_weight_a, .ref zp_nights_a, .ref zp_wanted_a, .ref zp_wantCount_a, .ref zp_wantBits_a, .int zp_size, .int zp_law])), (z_gave_a, .inl (cI, 6, .inl z_gave)), (zp_wantCount_a, .inl (cI, 6, .inl zp_wantCount)), (zp_wanted_a, .inl (cW, 6, .inr (.inr (.inr (.inr (fun i => if i < 6 then some (zp_wanted_r i) else none)))))), (zp_wanted_r 0, .inl (cI, 4, .inl (zp_wanted 0))), (zp_wanted_r 1, .inl (cI, 4, .inl (zp_wanted 1))), (zp_wanted_r 2, .inl (cI, 4, .inl (zp_wanted 2))), (zp_wanted_r 3, .inl (cI, 4, .inl (zp_wanted 3))), (zp_wanted_r 4, .inl (cI, 4, .inl (zp_wanted 4))), (zp_wanted_r 5, .inl (cI, 4, .inl (zp_wanted 5))), (zp_weight_a, .inl (cI, 6, .inl zp_weight)), (z_aims_a, .inl (cI, 6, .inl z_aims)), (z_lumps_a, .inl (cI, 6, .inl z_lumps))]
abbrev rm_X6_play : Room := { frames := 4, cells := 0, slots := 0, locals := 94 }
set_option maxHeartbeats 4000000 in
set_option maxRecDepth 100000 in
theorem c_X6_play (l : Launch) (dC : Nat → ClassId) (dI : Nat → Nat → Nat) (cI cZ cQ cW : ClassId) (z_o : Nat) (zp_o : Nat) (z_gave_a : Nat) (z_giver_a : Nat) (z_aims_a : Nat) (z_got_a : Nat) (z_lumps_a : Nat) (zp_weight_a : Nat) (zp_nights_a : Nat) (zp_wanted_a : Nat) (zp_wantCount_a : Nat) (zp_wantBits_a : Nat) (zp_wanted_r : Nat → Nat) (b_a : Nat) (z_left : Int32) (z_lumpCount : Int32) (z_ringed : Int32) (z_giver : Nat → Int32) (z_got : Nat → Int32) (zp_size : Int32) (zp_law : Int32) (z_gave : Nat → Int32) (zp_wantCount : Nat → Int32) (zp_wanted : Nat → Nat → Int32) (zp_weight : Nat → Int32) (z_aims : Nat → Int32) (z_lumps : Nat → Int32) (b_c : Nat → Int32) (x2 : Int32) (x3 : Int32) {ρ : Type} (N : Nat) (k : Int32 → Int32 → Int32 → (Nat → Int32) → (Nat → Int32) → (Nat → Int32) → (Nat → Int32) → (Nat → Int32) → Option ρ) (res : ρ) (h : f_X6_play N z_giver z_got zp_size z_gave zp_wantCount zp_wanted zp_weight z_aims z_lumps b_c x2 x3 k = some res) : Cv l yX6_play (WS yX6_play cX6_play 6 none) rm_X6_play (dC, dI) (tysG cI cZ cQ cW) (OE b_a b_c) [.ref z_o, .ref b_a, .int x2, .int x3] (w_X6_play cI cZ cQ cW z_o zp_o z_gave_a z_giver_a z_aims_a z_got_a z_lumps_a zp_weight_a zp_nights_a zp_wanted_a zp_wantCount_a zp_wantBits_a zp_wanted_r z_left z_lumpCount z_ringed z_giver z_got zp_size zp_law z_gave zp_wantCount zp_wanted zp_weight z_aims z_lumps) (fun (u : Int32 × Int32 × Int32 × (Nat → Int32) × (Nat → Int32) × (Nat → Int32) × (Nat → Int32) × (Nat → Int32)) => (w_X6_play cI cZ cQ cW z_o zp_o z_gave_a z_giver_a z_aims_a z_got_a z_lumps_a zp_weight_a zp_nights_a zp_wanted_a zp_wantCount_a zp_wantBits_a zp_wanted_r u.1 u.2.1 u.2.2.1 u.2.2.2.1 u.2.2.2.2.1 zp_size zp_law u.2.2.2.2.2.1 zp_wantCount zp_wanted zp_weight u.2.2.2.2.2.2.1 u.2.2.2.2.2.2.2)) (fun u => k u.1 u.2.1 u.2.2.1 u.2.2.2.1 u.2.2.2.2.1 u.2.2.2.2.2.1 u.2.2.2.2.2.2.1 u.2.2.2.2.2.2.2 = some res) := by
  refine Cv.of (cc := cX6_play) (n := 6) (by decide +kernel) (Nat.le_of_ble_eq_true rfl) ?_
  intro p e s m args below meth c A ls Q B hW hE hS hl hQ
  have hx := B.1
  have hb := B.2.1
  have hl : lv_has ls 6 [(0, .ref z_o), (1, .ref b_a), (2, .int x2), (3, .int x3)] := hl
  unfold f_X6_play at h
  refine lv_aload_n (pc := 0) hx hb (tb_at tk_X6_play 0 rfl) rfl (lv_at hl 0 rfl) ?_
  refine lv_aload_n (pc := 1) hx hb (tb_at tk_X6_play 1 rfl) rfl (lv_at hl 1 rfl) ?_
  refine lv_iload_n (pc := 2) hx hb (tb_at tk_X6_play 2 rfl) rfl (lv_at hl 2 rfl) ?_
  refine k_callv (pc := 3) B (k_runVv (rest := []) (C := RX6) B (c_X6_lay l dC dI cI cZ cQ cW z_o zp_o z_gave_a z_giver_a z_aims_a z_got_a z_lumps_a zp_weight_a zp_nights_a zp_wanted_a zp_wantCount_a zp_wantBits_a b_a z_left z_lumpCount z_ringed z_giver z_got zp_size zp_law z_gave b_c x2 N _ res h) (OE_st _ _) (OE_pass B hE hW hS [0, 1, 2, 3, 4] rfl) q_c_X6_lay q_m_X6_31 q_i_X6_lay q_s_X6_lay q_n_X6 hd_X6_lay ⟨rfl, rfl⟩ ⟨Nat.le_of_ble_eq_true rfl, Nat.le_of_ble_eq_true rfl⟩ hW [0, 1, 2, 3, 4] rfl (by decide +kernel) (q0 := 0) (ci := 6) rfl rfl rfl hl.1 rfl (Nat.le_of_ble_eq_true rfl) (tb_at tk_X6_play 3 rfl) ⟨Nat.zero_le _, Nat.zero_le _⟩) hW hS [0, 1, 2, 3, 4] rfl [z_o, z_giver_a, z_got_a, zp_o, z_gave_a] rfl (fun _ => rfl) [some 0, some 1, some 2, some 3, some 4, none, none, none, none, none, none, none, none, none, none, none] (by decide +kernel) (fun u => (w_X6_play cI cZ cQ cW z_o zp_o z_gave_a z_giver_a z_aims_a z_got_a z_lumps_a zp_weight_a zp_nights_a zp_wanted_a zp_wantCount_a zp_wantBits_a zp_wanted_r u.1 u.2.1 u.2.2.1 u.2.2.2.1 u.2.2.2.2.1 zp_size zp_law u.2.2.2.2.2 zp_wantCount zp_wanted zp_weight z_aims z_lumps)) (fun _ => rfl) (fun u H locs h hW hS => ?_)
  obtain ⟨z_left_3, z_lumpCount_3, z_ringed_3, z_giver_3, z_got_3, z_gave_3⟩ := u
  dsimp only at h
  have hW : PD (dC, dI) A (w_X6_play cI cZ cQ cW z_o zp_o z_gave_a z_giver_a z_aims_a z_got_a z_lumps_a zp_weight_a zp_nights_a zp_wanted_a zp_wantCount_a zp_wantBits_a zp_wanted_r z_left_3 z_lumpCount_3 z_ringed_3 z_giver_3 z_got_3 zp_size zp_law z_gave_3 zp_wantCount zp_wanted zp_weight z_aims z_lumps) H := hW
  refine lv_iconst (pc := 6) (v := 0) hx hb (tb_at tk_X6_play 4 rfl) (by decide) ?_
  refine lv_istore (pc := 7) (lv' := [(4, .int 0), (0, .ref z_o), (1, .ref b_a), (2, .int x2), (3, .int x3)]) hx hb (tb_at tk_X6_play 5 rfl) hl (by decide) rfl (fun ls hl => ?_)
  have w55 : ∀ (z_left_e55 : Int32) (z_lumpCount_e55 : Int32) (z_ringed_e55 : Int32) (z_giver_e55 : Nat → Int32) (z_got_e55 : Nat → Int32) (z_aims_e55 : Nat → Int32) (z_lumps_e55 : Nat → Int32) (H : Heap) (locs : List Loc) (ls : Array Slot), f_X6_play_e55 z_gave_3 k z_left_e55 z_lumpCount_e55 z_ringed_e55 z_giver_e55 z_got_e55 z_aims_e55 z_lumps_e55 = some res → PD (dC, dI) A (w_X6_play cI cZ cQ cW z_o zp_o z_gave_a z_giver_a z_aims_a z_got_a z_lumps_a zp_weight_a zp_nights_a zp_wanted_a zp_wantCount_a zp_wantBits_a zp_wanted_r z_left_e55 z_lumpCount_e55 z_ringed_e55 z_giver_e55 z_got_e55 zp_size zp_law z_gave_3 zp_wantCount zp_wanted zp_weight z_aims_e55 z_lumps_e55) H → va_S A s.heap H locs → lv_has ls 6 [] → W p l e rm_X6_play s m args below meth c H locs 0 0 Q (F0 m 55 ls []) := by
    intro z_left_e55 z_lumpCount_e55 z_ringed_e55 z_giver_e55 z_got_e55 z_aims_e55 z_lumps_e55 H locs ls h hW hS hl
    unfold f_X6_play_e55 at h
    exact hQ (z_left_e55, z_lumpCount_e55, z_ringed_e55, z_giver_e55, z_got_e55, z_gave_3, z_aims_e55, z_lumps_e55) _ _ _ 55 h hW hS (tb_at tk_X6_play 27 rfl)
  have w9 : ∀ (n : Nat), ∀ (y4_l9 : Int32) (z_left_l9 : Int32) (z_lumpCount_l9 : Int32) (z_ringed_l9 : Int32) (z_giver_l9 : Nat → Int32) (z_got_l9 : Nat → Int32) (z_aims_l9 : Nat → Int32) (z_lumps_l9 : Nat → Int32) (H : Heap) (locs : List Loc) (ls : Array Slot), f_X6_play_l9 x3 zp_size zp_wantCount zp_wanted zp_weight z_gave_3 (fun z_left_e55 z_lumpCount_e55 z_ringed_e55 z_giver_e55 z_got_e55 z_aims_e55 z_lumps_e55 => f_X6_play_e55 z_gave_3 k z_left_e55 z_lumpCount_e55 z_ringed_e55 z_giver_e55 z_got_e55 z_aims_e55 z_lumps_e55) N n y4_l9 z_left_l9 z_lumpCount_l9 z_ringed_l9 z_giver_l9 z_got_l9 z_aims_l9 z_lumps_l9 = some res → PD (dC, dI) A (w_X6_play cI cZ cQ cW z_o zp_o z_gave_a z_giver_a z_aims_a z_got_a z_lumps_a zp_weight_a zp_nights_a zp_wanted_a zp_wantCount_a zp_wantBits_a zp_wanted_r z_left_l9 z_lumpCount_l9 z_ringed_l9 z_giver_l9 z_got_l9 zp_size zp_law z_gave_3 zp_wantCount zp_wanted zp_weight z_aims_l9 z_lumps_l9) H → va_S A s.heap H locs → lv_has ls 6 [(0, .ref z_o), (3, .int x3), (4, .int y4_l9)] → W p l e rm_X6_play s m args below meth c H locs 0 0 Q (F0 m 9 ls []) := by
    intro n
    induction n with
    | zero => intro y4_l9 z_left_l9 z_lumpCount_l9 z_ringed_l9 z_giver_l9 z_got_l9 z_aims_l9 z_lumps_l9 H locs ls h; exact no_n h
    | succ n9 ih9 =>
      intro y4_l9 z_left_l9 z_lumpCount_l9 z_ringed_l9 z_giver_l9 z_got_l9 z_aims_l9 z_lumps_l9 H locs ls h hW hS hl
      rw [f_X6_play_l9] at h
      refine lv_iload (pc := 9) hx hb (tb_at tk_X6_play 6 rfl) (lv_at hl 2 rfl) ?_
      refine lv_bipush (pc := 11) (v := 6) hx hb (tb_at tk_X6_play 7 rfl) (by decide) ?_
      refine lv_icmp_ge (pc := 13) (tgt := 55) hx hb (tb_at tk_X6_play 8 rfl) (by decide) (fun cc => ?_) (fun cc => ?_)
      · have h := it_t cc h
        exact w55 z_left_l9 z_lumpCount_l9 z_ringed_l9 z_giver_l9 z_got_l9 z_aims_l9 z_lumps_l9 _ _ _ h hW hS (lv_sub hl [] rfl)
      · have h := it_f cc h
        refine lv_aload_n (pc := 16) hx hb (tb_at tk_X6_play 9 rfl) rfl (lv_at hl 0 rfl) ?_
        refine k_get (pc := 17) (v := .int z_left_l9) (T := TX6) B inG6 hW 0 rfl rfl 4 (by decide) q_f_X6_35 rfl rfl (tb_at tk_X6_play 10 rfl) ?_
        refine lv_if_eq (pc := 20) (tgt := 55) hx hb (tb_at tk_X6_play 11 rfl) (by decide) (fun cc => ?_) (fun cc => ?_)
        · have h := it_t cc h
          exact w55 z_left_l9 z_lumpCount_l9 z_ringed_l9 z_giver_l9 z_got_l9 z_aims_l9 z_lumps_l9 _ _ _ h hW hS (lv_sub hl [] rfl)
        · have h := it_f cc h
          refine lv_aload_n (pc := 23) hx hb (tb_at tk_X6_play 12 rfl) rfl (lv_at hl 0 rfl) ?_
          refine lv_iload_n (pc := 24) hx hb (tb_at tk_X6_play 13 rfl) rfl (lv_at hl 1 rfl) ?_
          refine k_calli (pc := 25) B (k_runVi (rest := []) (C := RX6) B (c_X6_aimAll l dC dI cI cZ cQ cW z_o zp_o z_gave_a z_giver_a z_aims_a z_got_a z_lumps_a zp_weight_a zp_nights_a zp_wanted_a zp_wantCount_a zp_wantBits_a zp_wanted_r z_left_l9 z_lumpCount_l9 z_ringed_l9 zp_size zp_law zp_wantCount zp_wanted z_giver_l9 zp_weight z_gave_3 z_aims_l9 x3 N _ res h) E0_st (fun _ _ _ => trivial) q_c_X6_aimAll q_m_X6_39 q_i_X6_aimAll q_s_X6_aimAll q_n_X6 hd_X6_aimAll ⟨rfl, rfl⟩ ⟨Nat.le_of_ble_eq_true rfl, Nat.le_of_ble_eq_true rfl⟩ hW [0, 3, 5, 6, 7, 8, 9, 10, 11, 12, 1, 13, 4, 14] rfl (by decide +kernel) (q0 := 0) (ci := 6) rfl rfl rfl hl.1 rfl (Nat.le_of_ble_eq_true rfl) (tb_at tk_X6_play 14 rfl) ⟨Nat.zero_le _, Nat.zero_le _⟩) hW hS [0, 3, 5, 6, 7, 8, 9, 10, 11, 12, 1, 13, 4, 14] rfl [z_o, zp_o, zp_wantCount_a, zp_wanted_a, zp_wanted_r 0, zp_wanted_r 1, zp_wanted_r 2, zp_wanted_r 3, zp_wanted_r 4, zp_wanted_r 5, z_giver_a, zp_weight_a, z_gave_a, z_aims_a] rfl (fun _ => rfl) [some 0, some 10, none, some 1, some 12, some 2, some 3, some 4, some 5, some 6, some 7, some 8, some 9, some 11, some 13, none] (by decide +kernel) (fun u => (w_X6_play cI cZ cQ cW z_o zp_o z_gave_a z_giver_a z_aims_a z_got_a z_lumps_a zp_weight_a zp_nights_a zp_wanted_a zp_wantCount_a zp_wantBits_a zp_wanted_r z_left_l9 z_lumpCount_l9 z_ringed_l9 z_giver_l9 z_got_l9 zp_size zp_law z_gave_3 zp_wantCount zp_wanted zp_weight u z_lumps_l9)) (fun _ => rfl) (fun r25 u H locs h hW hS => ?_)
          obtain ⟨z_aims_25, rfl⟩ : ∃ z9, z9 = u := ⟨_, rfl⟩
          have hW : PD (dC, dI) A (w_X6_play cI cZ cQ cW z_o zp_o z_gave_a z_giver_a z_aims_a z_got_a z_lumps_a zp_weight_a zp_nights_a zp_wanted_a zp_wantCount_a zp_wantBits_a zp_wanted_r z_left_l9 z_lumpCount_l9 z_ringed_l9 z_giver_l9 z_got_l9 zp_size zp_law z_gave_3 zp_wantCount zp_wanted zp_weight z_aims_25 z_lumps_l9) H := hW
          refine lv_istore (pc := 28) (lv' := [(5, .int r25), (0, .ref z_o), (3, .int x3), (4, .int y4_l9)]) hx hb (tb_at tk_X6_play 15 rfl) hl (by decide) rfl (fun ls hl => ?_)
          refine lv_iload (pc := 30) hx hb (tb_at tk_X6_play 16 rfl) (lv_at hl 0 rfl) ?_
          refine lv_iconst (pc := 32) (v := (-1)) hx hb (tb_at tk_X6_play 17 rfl) (by decide) ?_
          refine lv_icmp_ne (pc := 33) (tgt := 43) hx hb (tb_at tk_X6_play 18 rfl) (by decide) (fun cc => ?_) (fun cc => ?_)
          · have h := it_f cc h
            refine lv_aload_n (pc := 43) hx hb (tb_at tk_X6_play 22 rfl) rfl (lv_at hl 1 rfl) ?_
            refine lv_iload (pc := 44) hx hb (tb_at tk_X6_play 23 rfl) (lv_at hl 0 rfl) ?_
            refine k_callv (pc := 46) B (k_runVv (rest := []) (C := RX6) B (c_X6_smash l dC dI cI cZ cQ cW z_o zp_o z_gave_a z_giver_a z_aims_a z_got_a z_lumps_a z_left_l9 z_lumpCount_l9 z_ringed_l9 z_gave_3 z_lumps_l9 z_giver_l9 r25 N _ res h) E0_st (fun _ _ _ => trivial) q_c_X6_smash q_m_X6_46 q_i_X6_smash q_s_X6_smash q_n_X6 hd_X6_smash ⟨rfl, rfl⟩ ⟨Nat.le_of_ble_eq_true rfl, Nat.le_of_ble_eq_true rfl⟩ hW [0, 4, 15, 1] rfl (by decide +kernel) (q0 := 0) (ci := 6) rfl rfl rfl hl.1 rfl (Nat.le_of_ble_eq_true rfl) (tb_at tk_X6_play 24 rfl) ⟨Nat.zero_le _, Nat.zero_le _⟩) hW hS [0, 4, 15, 1] rfl [z_o, z_gave_a, z_lumps_a, z_giver_a] rfl (fun _ => rfl) [some 0, some 3, none, none, some 1, none, none, none, none, none, none, none, none, none, none, some 2] (by decide +kernel) (fun u => (w_X6_play cI cZ cQ cW z_o zp_o z_gave_a z_giver_a z_aims_a z_got_a z_lumps_a zp_weight_a zp_nights_a zp_wanted_a zp_wantCount_a zp_wantBits_a zp_wanted_r u.1 u.2.1 z_ringed_l9 u.2.2.2 z_got_l9 zp_size zp_law z_gave_3 zp_wantCount zp_wanted zp_weight z_aims_25 u.2.2.1)) (fun _ => rfl) (fun u H locs h hW hS => ?_)
            obtain ⟨z_left_46, z_lumpCount_46, z_lumps_46, z_giver_46⟩ := u
            dsimp only at h
            have hW : PD (dC, dI) A (w_X6_play cI cZ cQ cW z_o zp_o z_gave_a z_giver_a z_aims_a z_got_a z_lumps_a zp_weight_a zp_nights_a zp_wanted_a zp_wantCount_a zp_wantBits_a zp_wanted_r z_left_46 z_lumpCount_46 z_ringed_l9 z_giver_46 z_got_l9 zp_size zp_law z_gave_3 zp_wantCount zp_wanted zp_weight z_aims_25 z_lumps_46) H := hW
            refine lv_iinc (pc := 49) (v := y4_l9 + 1) (lv' := [(4, .int (y4_l9 + 1)), (5, .int r25), (0, .ref z_o), (3, .int x3)]) hx hb (tb_at tk_X6_play 25 rfl) hl (k := 3) rfl rfl (by decide) rfl (fun ls hl => ?_)
            refine lv_goto (pc := 52) (tgt := 9) hx hb (tb_at tk_X6_play 26 rfl) (by decide) ?_
            exact ih9 (y4_l9 + 1) z_left_46 z_lumpCount_46 z_ringed_l9 z_giver_46 z_got_l9 z_aims_25 z_lumps_46 _ _ _ h hW hS (lv_sub hl [2, 3, 0] rfl)
          · have h := it_t cc h
            refine lv_aload_n (pc := 36) hx hb (tb_at tk_X6_play 19 rfl) rfl (lv_at hl 1 rfl) ?_
            refine k_callv (pc := 37) B (k_runVv (rest := []) (C := RX6) B (c_X6_goRound l dC dI cI cZ cQ cW z_o zp_o z_gave_a z_giver_a z_aims_a z_got_a z_lumps_a z_left_l9 z_lumpCount_l9 z_ringed_l9 z_aims_25 z_gave_3 z_got_l9 z_giver_l9  N _ res h) E0_st (fun _ _ _ => trivial) q_c_X6_goRound q_m_X6_43 q_i_X6_goRound q_s_X6_goRound q_n_X6 hd_X6_goRound ⟨rfl, rfl⟩ ⟨Nat.le_of_ble_eq_true rfl, Nat.le_of_ble_eq_true rfl⟩ hW [0, 14, 4, 2, 1] rfl (by decide +kernel) (q0 := 0) (ci := 6) rfl rfl rfl hl.1 rfl (Nat.le_of_ble_eq_true rfl) (tb_at tk_X6_play 20 rfl) ⟨Nat.zero_le _, Nat.zero_le _⟩) hW hS [0, 14, 4, 2, 1] rfl [z_o, z_aims_a, z_gave_a, z_got_a, z_giver_a] rfl (fun _ => rfl) [some 0, some 4, some 3, none, some 2, none, none, none, none, none, none, none, none, none, some 1, none] (by decide +kernel) (fun u => (w_X6_play cI cZ cQ cW z_o zp_o z_gave_a z_giver_a z_aims_a z_got_a z_lumps_a zp_weight_a zp_nights_a zp_wanted_a zp_wantCount_a zp_wantBits_a zp_wanted_r u.1 z_lumpCount_l9 u.2.1 u.2.2.2 u.2.2.1 zp_size zp_law z_gave_3 zp_wantCount zp_wanted zp_weight z_aims_25 z_lumps_l9)) (fun _ => rfl) (fun u H locs h hW hS => ?_)
            obtain ⟨z_left_37, z_ringed_37, z_got_37, z_giver_37⟩ := u
            dsimp only at h
            have hW : PD (dC, dI) A (w_X6_play cI cZ cQ cW z_o zp_o z_gave_a z_giver_a z_aims_a z_got_a z_lumps_a zp_weight_a zp_nights_a zp_wanted_a zp_wantCount_a zp_wantBits_a zp_wanted_r z_left_37 z_lumpCount_l9 z_ringed_37 z_giver_37 z_got_37 zp_size zp_law z_gave_3 zp_wantCount zp_wanted zp_weight z_aims_25 z_lumps_l9) H := hW
            refine lv_goto (pc := 40) (tgt := 49) hx hb (tb_at tk_X6_play 21 rfl) (by decide) ?_
            refine lv_iinc (pc := 49) (v := y4_l9 + 1) (lv' := [(4, .int (y4_l9 + 1)), (5, .int r25), (0, .ref z_o), (3, .int x3)]) hx hb (tb_at tk_X6_play 25 rfl) hl (k := 3) rfl rfl (by decide) rfl (fun ls hl => ?_)
            refine lv_goto (pc := 52) (tgt := 9) hx hb (tb_at tk_X6_play 26 rfl) (by decide) ?_
            exact ih9 (y4_l9 + 1) z_left_37 z_lumpCount_l9 z_ringed_37 z_giver_37 z_got_37 z_aims_25 z_lumps_l9 _ _ _ h hW hS (lv_sub hl [2, 3, 0] rfl)
  exact w9 N 0 z_left_3 z_lumpCount_3 z_ringed_3 z_giver_3 z_got_3 z_aims z_lumps _ _ _ h hW hS (lv_sub hl [1, 4, 0] rfl)
