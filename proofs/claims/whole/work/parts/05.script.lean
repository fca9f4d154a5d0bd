/-! 05.script: printed by wip/whole/gen.py: pure functions, and that the bytecode meets them -/
def f_X4_add {ρ : Type} (N : Nat) (z_length : Int32) (z_letters : Nat → Int32) (x1 : Int32) (k : Int32 → Int32 → (Nat → Int32) → Option ρ) : Option ρ := if z_length < 150 then (ck (ivi z_length 150) (k 1 (z_length + 1) (upd z_letters (z_length).toNatClampNeg x1))) else (k 0 z_length z_letters)
abbrev w_X4_add (cI cZ cQ cW : ClassId) (z_o : Nat) (zd_o : Nat) (z_letters_a : Nat) (z_length : Int32) (z_place : Int32) (z_tokenPlace : Int32) (z_token : Int32) (z_value : Int32) (z_lawTold : Int32) (z_letters : Nat → Int32) : va_W := [(z_o, .inr (4, [.ref zd_o, .ref z_letters_a, .int z_length, .int z_place, .int z_tokenPlace, .int z_token, .int z_value, .int z_lawTold])), (z_letters_a, .inl (cI, 150, .inl z_letters))]
abbrev rm_X4_add : Room := { frames := 0, cells := 0, slots := 0, locals := 0 }
set_option maxHeartbeats 4000000 in
set_option maxRecDepth 100000 in
theorem c_X4_add (l : Launch) (dC : Nat → ClassId) (dI : Nat → Nat → Nat) (cI cZ cQ cW : ClassId) (z_o : Nat) (zd_o : Nat) (z_letters_a : Nat) (z_length : Int32) (z_place : Int32) (z_tokenPlace : Int32) (z_token : Int32) (z_value : Int32) (z_lawTold : Int32) (z_letters : Nat → Int32) (x1 : Int32) {ρ : Type} (N : Nat) (k : Int32 → Int32 → (Nat → Int32) → Option ρ) (res : ρ) (h : f_X4_add N z_length z_letters x1 k = some res) : Ci l yX4_add (WS yX4_add cX4_add 2 (some .boolean)) rm_X4_add (dC, dI) (tysG cI cZ cQ cW) E0 [.ref z_o, .int x1] (w_X4_add cI cZ cQ cW z_o zd_o z_letters_a z_length z_place z_tokenPlace z_token z_value z_lawTold z_letters) (fun (u : Int32 × (Nat → Int32)) => (w_X4_add cI cZ cQ cW z_o zd_o z_letters_a u.1 z_place z_tokenPlace z_token z_value z_lawTold u.2)) (fun r u => k r u.1 u.2 = some res) := by
  refine Ci.of (cc := cX4_add) (n := 2) (by decide +kernel) (Nat.le_of_ble_eq_true rfl) ?_
  intro p e s m args below meth c A ls Q B hW hE hS hl hQ
  have hx := B.1
  have hb := B.2.1
  have hl : lv_has ls 2 [(0, .ref z_o), (1, .int x1)] := hl
  unfold f_X4_add at h
  refine lv_aload_n (pc := 0) hx hb (tb_at tk_X4_add 0 rfl) rfl (lv_at hl 0 rfl) ?_
  refine k_get (pc := 1) (v := .int z_length) (T := TX4) B inG4 hW 0 rfl rfl 2 (by decide) q_f_X4_22 rfl rfl (tb_at tk_X4_add 1 rfl) ?_
  refine lv_sipush (pc := 4) (v := 150) hx hb (tb_at tk_X4_add 2 rfl) (by decide) ?_
  refine lv_icmp_lt (pc := 7) (tgt := 12) hx hb (tb_at tk_X4_add 3 rfl) (by decide) (fun cc => ?_) (fun cc => ?_)
  · have h := it_t cc h
    refine lv_aload_n (pc := 12) hx hb (tb_at tk_X4_add 6 rfl) rfl (lv_at hl 0 rfl) ?_
    refine k_get (pc := 13) (v := .ref z_letters_a) (T := TX4) B inG4 hW 0 rfl rfl 1 (by decide) q_f_X4_18 rfl rfl (tb_at tk_X4_add 7 rfl) ?_
    refine lv_aload_n (pc := 16) hx hb (tb_at tk_X4_add 8 rfl) rfl (lv_at hl 0 rfl) ?_
    refine k_get (pc := 17) (v := .int z_length) (T := TX4) B inG4 hW 0 rfl rfl 2 (by decide) q_f_X4_22 rfl rfl (tb_at tk_X4_add 9 rfl) ?_
    refine lv_iload_n (pc := 20) hx hb (tb_at tk_X4_add 10 rfl) rfl (lv_at hl 1 rfl) ?_
    have ii := ivi_in (ck_l h)
    have h := ck_r h
    refine k_iast (pc := 21) B hW hS 1 0 rfl rfl ii (tb_at tk_X4_add 11 rfl) (w_X4_add cI cZ cQ cW z_o zd_o z_letters_a z_length z_place z_tokenPlace z_token z_value z_lawTold (upd z_letters (z_length).toNatClampNeg x1)) rfl (fun H locs hW hS => ?_)
    refine lv_aload_n (pc := 22) hx hb (tb_at tk_X4_add 12 rfl) rfl (lv_at hl 0 rfl) ?_
    refine lv_dup (pc := 23) hx hb (tb_at tk_X4_add 13 rfl) rfl ?_
    refine k_get (pc := 24) (v := .int z_length) (T := TX4) B inG4 hW 0 rfl rfl 2 (by decide) q_f_X4_22 rfl rfl (tb_at tk_X4_add 14 rfl) ?_
    refine lv_iconst (pc := 27) (v := 1) hx hb (tb_at tk_X4_add 15 rfl) (by decide) ?_
    refine lv_iadd (pc := 28) hx hb (tb_at tk_X4_add 16 rfl) ?_
    refine k_put (pc := 29) (T := TX4) B inG4 tyX4 tyX4_ok nmX4 hW hS 0 rfl rfl 2 (by decide) q_f_X4_22 rfl rfl rfl rfl (Nat.le_of_ble_eq_true rfl) (tb_at tk_X4_add 17 rfl) (w_X4_add cI cZ cQ cW z_o zd_o z_letters_a (z_length + 1) z_place z_tokenPlace z_token z_value z_lawTold (upd z_letters (z_length).toNatClampNeg x1)) rfl (fun H locs hW hS => ?_)
    refine lv_iconst (pc := 32) (v := 1) hx hb (tb_at tk_X4_add 18 rfl) (by decide) ?_
    exact hQ 1 (z_length + 1, upd z_letters (z_length).toNatClampNeg x1) _ _ _ 33 nz1 h hW hS (tb_at tk_X4_add 19 rfl)
  · have h := it_f cc h
    refine lv_iconst (pc := 10) (v := 0) hx hb (tb_at tk_X4_add 4 rfl) (by decide) ?_
    exact hQ 0 (z_length, z_letters) _ _ _ 11 nz0 h hW hS (tb_at tk_X4_add 5 rfl)
def f_X4_isDigit {ρ : Type} (N : Nat) (x0 : Int32) (k : Int32 → Option ρ) : Option ρ := if x0 < 48 then (k 0) else (if 57 < x0 then (k 0) else (k 1))
abbrev rm_X4_isDigit : Room := { frames := 0, cells := 0, slots := 0, locals := 0 }
set_option maxHeartbeats 4000000 in
set_option maxRecDepth 100000 in
theorem c_X4_isDigit (l : Launch) (dC : Nat → ClassId) (dI : Nat → Nat → Nat) (cI cZ cQ cW : ClassId) (x0 : Int32) {ρ : Type} (N : Nat) (k : Int32 → Option ρ) (res : ρ) (h : f_X4_isDigit N x0 k = some res) : Ci l yX4_isDigit (WS yX4_isDigit cX4_isDigit 1 (some .boolean)) rm_X4_isDigit (dC, dI) (tysG cI cZ cQ cW) E0 [.int x0] [] (fun (_ : Unit) => []) (fun r _ => k r = some res) := by
  refine Ci.of (cc := cX4_isDigit) (n := 1) (by decide +kernel) (Nat.le_of_ble_eq_true rfl) ?_
  intro p e s m args below meth c A ls Q B hW hE hS hl hQ
  have hx := B.1
  have hb := B.2.1
  have hl : lv_has ls 1 [(0, .int x0)] := hl
  unfold f_X4_isDigit at h
  refine lv_iload_n (pc := 0) hx hb (tb_at tk_X4_isDigit 0 rfl) rfl (lv_at hl 0 rfl) ?_
  refine lv_bipush (pc := 1) (v := 48) hx hb (tb_at tk_X4_isDigit 1 rfl) (by decide) ?_
  refine lv_icmp_lt (pc := 3) (tgt := 16) hx hb (tb_at tk_X4_isDigit 2 rfl) (by decide) (fun cc => ?_) (fun cc => ?_)
  · have h := it_t cc h
    refine lv_iconst (pc := 16) (v := 0) hx hb (tb_at tk_X4_isDigit 8 rfl) (by decide) ?_
    exact hQ 0 () _ _ _ 17 nz0 h hW hS (tb_at tk_X4_isDigit 9 rfl)
  · have h := it_f cc h
    refine lv_iload_n (pc := 6) hx hb (tb_at tk_X4_isDigit 3 rfl) rfl (lv_at hl 0 rfl) ?_
    refine lv_bipush (pc := 7) (v := 57) hx hb (tb_at tk_X4_isDigit 4 rfl) (by decide) ?_
    refine lv_icmp_gt (pc := 9) (tgt := 16) hx hb (tb_at tk_X4_isDigit 5 rfl) (by decide) (fun cc => ?_) (fun cc => ?_)
    · have h := it_t cc h
      refine lv_iconst (pc := 16) (v := 0) hx hb (tb_at tk_X4_isDigit 8 rfl) (by decide) ?_
      exact hQ 0 () _ _ _ 17 nz0 h hW hS (tb_at tk_X4_isDigit 9 rfl)
    · have h := it_f cc h
      refine lv_iconst (pc := 12) (v := 1) hx hb (tb_at tk_X4_isDigit 6 rfl) (by decide) ?_
      refine lv_goto (pc := 13) (tgt := 17) hx hb (tb_at tk_X4_isDigit 7 rfl) (by decide) ?_
      exact hQ 1 () _ _ _ 17 nz1 h hW hS (tb_at tk_X4_isDigit 9 rfl)
def f_X4_readNumber_j109 {ρ : Type} (z_place_e77 : Int32) (z_value_e77 : Int32) (k : Int32 → Int32 → Int32 → Option ρ) (s0_j109 : Int32) : Option ρ := if 99 < z_value_e77 then (k 0 z_place_e77 z_value_e77) else (if s0_j109 = 0 then (k 1 z_place_e77 z_value_e77) else (k 0 z_place_e77 z_value_e77))
def f_X4_readNumber_j108 {ρ : Type} (z_place_e77 : Int32) (z_value_e77 : Int32) (k : Int32 → Int32 → Int32 → Option ρ) : Option ρ := f_X4_readNumber_j109 z_place_e77 z_value_e77 k 0
def f_X4_readNumber_e77 {ρ : Type} (z_tokenPlace : Int32) (z_letters : Nat → Int32) (k : Int32 → Int32 → Int32 → Option ρ) (z_place_e77 : Int32) (z_value_e77 : Int32) : Option ρ := ck (ivi z_tokenPlace 150) (if (z_letters (z_tokenPlace).toNatClampNeg) = 48 then (if (z_place_e77 - z_tokenPlace) ≤ 1 then (f_X4_readNumber_j108 z_place_e77 z_value_e77 k ) else (f_X4_readNumber_j109 z_place_e77 z_value_e77 k 1)) else (f_X4_readNumber_j108 z_place_e77 z_value_e77 k ))
def f_X4_readNumber_j64 {ρ : Type} (z_place_l5 : Int32) (kb5 : Int32 → Int32 → Option ρ) (z_value_j64 : Int32) : Option ρ := kb5 (z_place_l5 + 1) z_value_j64
def f_X4_readNumber_l5 {ρ : Type} (z_length : Int32) (z_letters : Nat → Int32) (k77 : Int32 → Int32 → Option ρ) (N : Nat) : Nat → Int32 → Int32 → Option ρ
  | 0, _, _ => none
  | n5 + 1, z_place_l5, z_value_l5 => if z_length ≤ z_place_l5 then (k77 z_place_l5 z_value_l5) else (ck (ivi z_place_l5 150) (f_X4_isDigit N (z_letters (z_place_l5).toNatClampNeg) (fun r25 => if r25 = 0 then (k77 z_place_l5 z_value_l5) else (if 99 < z_value_l5 then (f_X4_readNumber_j64 z_place_l5 (f_X4_readNumber_l5 z_length z_letters k77 N n5) z_value_l5) else (ck (ivi z_place_l5 150) (f_X4_readNumber_j64 z_place_l5 (f_X4_readNumber_l5 z_length z_letters k77 N n5) (((z_value_l5 * 10) + (z_letters (z_place_l5).toNatClampNeg)) - 48)))))))
def f_X4_readNumber {ρ : Type} (N : Nat) (z_length : Int32) (z_place : Int32) (z_tokenPlace : Int32) (z_letters : Nat → Int32) (k : Int32 → Int32 → Int32 → Option ρ) : Option ρ := f_X4_readNumber_l5 z_length z_letters (fun z_place_e77 z_value_e77 => f_X4_readNumber_e77 z_tokenPlace z_letters k z_place_e77 z_value_e77) N N z_place 0
abbrev w_X4_readNumber (cI cZ cQ cW : ClassId) (z_o : Nat) (zd_o : Nat) (z_letters_a : Nat) (z_length : Int32) (z_place : Int32) (z_tokenPlace : Int32) (z_token : Int32) (z_value : Int32) (z_lawTold : Int32) (z_letters : Nat → Int32) : va_W := [(z_o, .inr (4, [.ref zd_o, .ref z_letters_a, .int z_length, .int z_place, .int z_tokenPlace, .int z_token, .int z_value, .int z_lawTold])), (z_letters_a, .inl (cI, 150, .inl z_letters))]
abbrev rm_X4_readNumber : Room := { frames := 1, cells := 0, slots := 0, locals := 20 }
set_option maxHeartbeats 4000000 in
set_option maxRecDepth 100000 in
theorem c_X4_readNumber (l : Launch) (dC : Nat → ClassId) (dI : Nat → Nat → Nat) (cI cZ cQ cW : ClassId) (z_o : Nat) (zd_o : Nat) (z_letters_a : Nat) (z_length : Int32) (z_place : Int32) (z_tokenPlace : Int32) (z_token : Int32) (z_value : Int32) (z_lawTold : Int32) (z_letters : Nat → Int32) {ρ : Type} (N : Nat) (k : Int32 → Int32 → Int32 → Option ρ) (res : ρ) (h : f_X4_readNumber N z_length z_place z_tokenPlace z_letters k = some res) : Ci l yX4_readNumber (WS yX4_readNumber cX4_readNumber 2 (some .boolean)) rm_X4_readNumber (dC, dI) (tysG cI cZ cQ cW) E0 [.ref z_o] (w_X4_readNumber cI cZ cQ cW z_o zd_o z_letters_a z_length z_place z_tokenPlace z_token z_value z_lawTold z_letters) (fun (u : Int32 × Int32) => (w_X4_readNumber cI cZ cQ cW z_o zd_o z_letters_a z_length u.1 z_tokenPlace z_token u.2 z_lawTold z_letters)) (fun r u => k r u.1 u.2 = some res) := by
  refine Ci.of (cc := cX4_readNumber) (n := 2) (by decide +kernel) (Nat.le_of_ble_eq_true rfl) ?_
  intro p e s m args below meth c A ls Q B hW hE hS hl hQ
  have hx := B.1
  have hb := B.2.1
  have hl : lv_has ls 2 [(0, .ref z_o)] := hl
  unfold f_X4_readNumber at h
  refine lv_aload_n (pc := 0) hx hb (tb_at tk_X4_readNumber 0 rfl) rfl (lv_at hl 0 rfl) ?_
  refine lv_iconst (pc := 1) (v := 0) hx hb (tb_at tk_X4_readNumber 1 rfl) (by decide) ?_
  refine k_put (pc := 2) (T := TX4) B inG4 tyX4 tyX4_ok nmX4 hW hS 0 rfl rfl 6 (by decide) q_f_X4_62 rfl rfl rfl rfl (Nat.le_of_ble_eq_true rfl) (tb_at tk_X4_readNumber 2 rfl) (w_X4_readNumber cI cZ cQ cW z_o zd_o z_letters_a z_length z_place z_tokenPlace z_token 0 z_lawTold z_letters) rfl (fun H locs hW hS => ?_)
  have w77 : ∀ (z_place_e77 : Int32) (z_value_e77 : Int32) (H : Heap) (locs : List Loc) (ls : Array Slot), f_X4_readNumber_e77 z_tokenPlace z_letters k z_place_e77 z_value_e77 = some res → PD (dC, dI) A (w_X4_readNumber cI cZ cQ cW z_o zd_o z_letters_a z_length z_place_e77 z_tokenPlace z_token z_value_e77 z_lawTold z_letters) H → va_S A s.heap H locs → lv_has ls 2 [(0, .ref z_o)] → W p l e rm_X4_readNumber s m args below meth c H locs 0 0 Q (F0 m 77 ls []) := by
    intro z_place_e77 z_value_e77 H locs ls h hW hS hl
    unfold f_X4_readNumber_e77 at h
    refine lv_aload_n (pc := 77) hx hb (tb_at tk_X4_readNumber 40 rfl) rfl (lv_at hl 0 rfl) ?_
    refine k_get (pc := 78) (v := .ref z_letters_a) (T := TX4) B inG4 hW 0 rfl rfl 1 (by decide) q_f_X4_18 rfl rfl (tb_at tk_X4_readNumber 41 rfl) ?_
    refine lv_aload_n (pc := 81) hx hb (tb_at tk_X4_readNumber 42 rfl) rfl (lv_at hl 0 rfl) ?_
    refine k_get (pc := 82) (v := .int z_tokenPlace) (T := TX4) B inG4 hW 0 rfl rfl 4 (by decide) q_f_X4_52 rfl rfl (tb_at tk_X4_readNumber 43 rfl) ?_
    have ii := ivi_in (ck_l h)
    have h := ck_r h
    refine k_iald (pc := 85) B hW 1 0 rfl rfl ii (tb_at tk_X4_readNumber 44 rfl) ?_
    refine lv_bipush (pc := 86) (v := 48) hx hb (tb_at tk_X4_readNumber 45 rfl) (by decide) ?_
    have w109 : ∀ (s0_j109 : Int32) (H : Heap) (locs : List Loc) (ls : Array Slot), f_X4_readNumber_j109 z_place_e77 z_value_e77 k s0_j109 = some res → PD (dC, dI) A (w_X4_readNumber cI cZ cQ cW z_o zd_o z_letters_a z_length z_place_e77 z_tokenPlace z_token z_value_e77 z_lawTold z_letters) H → va_S A s.heap H locs → lv_has ls 2 [(0, .ref z_o)] → W p l e rm_X4_readNumber s m args below meth c H locs 0 0 Q (F0 m 109 ls [.int s0_j109]) := by
      intro s0_j109 H locs ls h hW hS hl
      unfold f_X4_readNumber_j109 at h
      refine lv_istore_n (pc := 109) (lv' := [(1, .int s0_j109), (0, .ref z_o)]) hx hb (tb_at tk_X4_readNumber 57 rfl) rfl hl (by decide) rfl (fun ls hl => ?_)
      refine lv_aload_n (pc := 110) hx hb (tb_at tk_X4_readNumber 58 rfl) rfl (lv_at hl 1 rfl) ?_
      refine k_get (pc := 111) (v := .int z_value_e77) (T := TX4) B inG4 hW 0 rfl rfl 6 (by decide) q_f_X4_62 rfl rfl (tb_at tk_X4_readNumber 59 rfl) ?_
      refine lv_bipush (pc := 114) (v := 99) hx hb (tb_at tk_X4_readNumber 60 rfl) (by decide) ?_
      refine lv_icmp_gt (pc := 116) (tgt := 127) hx hb (tb_at tk_X4_readNumber 61 rfl) (by decide) (fun cc => ?_) (fun cc => ?_)
      · have h := it_t cc h
        refine lv_iconst (pc := 127) (v := 0) hx hb (tb_at tk_X4_readNumber 66 rfl) (by decide) ?_
        exact hQ 0 (z_place_e77, z_value_e77) _ _ _ 128 nz0 h hW hS (tb_at tk_X4_readNumber 67 rfl)
      · have h := it_f cc h
        refine lv_iload_n (pc := 119) hx hb (tb_at tk_X4_readNumber 62 rfl) rfl (lv_at hl 0 rfl) ?_
        refine lv_if_ne (pc := 120) (tgt := 127) hx hb (tb_at tk_X4_readNumber 63 rfl) (by decide) (fun cc => ?_) (fun cc => ?_)
        · have h := it_f cc h
          refine lv_iconst (pc := 127) (v := 0) hx hb (tb_at tk_X4_readNumber 66 rfl) (by decide) ?_
          exact hQ 0 (z_place_e77, z_value_e77) _ _ _ 128 nz0 h hW hS (tb_at tk_X4_readNumber 67 rfl)
        · have h := it_t cc h
          refine lv_iconst (pc := 123) (v := 1) hx hb (tb_at tk_X4_readNumber 64 rfl) (by decide) ?_
          refine lv_goto (pc := 124) (tgt := 128) hx hb (tb_at tk_X4_readNumber 65 rfl) (by decide) ?_
          exact hQ 1 (z_place_e77, z_value_e77) _ _ _ 128 nz1 h hW hS (tb_at tk_X4_readNumber 67 rfl)
    have w108 : ∀ (H : Heap) (locs : List Loc) (ls : Array Slot), f_X4_readNumber_j108 z_place_e77 z_value_e77 k = some res → PD (dC, dI) A (w_X4_readNumber cI cZ cQ cW z_o zd_o z_letters_a z_length z_place_e77 z_tokenPlace z_token z_value_e77 z_lawTold z_letters) H → va_S A s.heap H locs → lv_has ls 2 [(0, .ref z_o)] → W p l e rm_X4_readNumber s m args below meth c H locs 0 0 Q (F0 m 108 ls []) := by
      intro H locs ls h hW hS hl
      unfold f_X4_readNumber_j108 at h
      refine lv_iconst (pc := 108) (v := 0) hx hb (tb_at tk_X4_readNumber 56 rfl) (by decide) ?_
      exact w109 0 _ _ _ h hW hS (lv_sub hl [0] rfl)
    refine lv_icmp_ne (pc := 88) (tgt := 108) hx hb (tb_at tk_X4_readNumber 46 rfl) (by decide) (fun cc => ?_) (fun cc => ?_)
    · have h := it_f cc h
      exact w108  _ _ _ h hW hS (lv_sub hl [0] rfl)
    · have h := it_t cc h
      refine lv_aload_n (pc := 91) hx hb (tb_at tk_X4_readNumber 47 rfl) rfl (lv_at hl 0 rfl) ?_
      refine k_get (pc := 92) (v := .int z_place_e77) (T := TX4) B inG4 hW 0 rfl rfl 3 (by decide) q_f_X4_29 rfl rfl (tb_at tk_X4_readNumber 48 rfl) ?_
      refine lv_aload_n (pc := 95) hx hb (tb_at tk_X4_readNumber 49 rfl) rfl (lv_at hl 0 rfl) ?_
      refine k_get (pc := 96) (v := .int z_tokenPlace) (T := TX4) B inG4 hW 0 rfl rfl 4 (by decide) q_f_X4_52 rfl rfl (tb_at tk_X4_readNumber 50 rfl) ?_
      refine lv_isub (pc := 99) hx hb (tb_at tk_X4_readNumber 51 rfl) ?_
      refine lv_iconst (pc := 100) (v := 1) hx hb (tb_at tk_X4_readNumber 52 rfl) (by decide) ?_
      refine lv_icmp_le (pc := 101) (tgt := 108) hx hb (tb_at tk_X4_readNumber 53 rfl) (by decide) (fun cc => ?_) (fun cc => ?_)
      · have h := it_t cc h
        exact w108  _ _ _ h hW hS (lv_sub hl [0] rfl)
      · have h := it_f cc h
        refine lv_iconst (pc := 104) (v := 1) hx hb (tb_at tk_X4_readNumber 54 rfl) (by decide) ?_
        refine lv_goto (pc := 105) (tgt := 109) hx hb (tb_at tk_X4_readNumber 55 rfl) (by decide) ?_
        exact w109 1 _ _ _ h hW hS (lv_sub hl [0] rfl)
  have w5 : ∀ (n : Nat), ∀ (z_place_l5 : Int32) (z_value_l5 : Int32) (H : Heap) (locs : List Loc) (ls : Array Slot), f_X4_readNumber_l5 z_length z_letters (fun z_place_e77 z_value_e77 => f_X4_readNumber_e77 z_tokenPlace z_letters k z_place_e77 z_value_e77) N n z_place_l5 z_value_l5 = some res → PD (dC, dI) A (w_X4_readNumber cI cZ cQ cW z_o zd_o z_letters_a z_length z_place_l5 z_tokenPlace z_token z_value_l5 z_lawTold z_letters) H → va_S A s.heap H locs → lv_has ls 2 [(0, .ref z_o)] → W p l e rm_X4_readNumber s m args below meth c H locs 0 0 Q (F0 m 5 ls []) := by
    intro n
    induction n with
    | zero => intro z_place_l5 z_value_l5 H locs ls h; exact no_n h
    | succ n5 ih5 =>
      intro z_place_l5 z_value_l5 H locs ls h hW hS hl
      rw [f_X4_readNumber_l5] at h
      refine lv_aload_n (pc := 5) hx hb (tb_at tk_X4_readNumber 3 rfl) rfl (lv_at hl 0 rfl) ?_
      refine k_get (pc := 6) (v := .int z_place_l5) (T := TX4) B inG4 hW 0 rfl rfl 3 (by decide) q_f_X4_29 rfl rfl (tb_at tk_X4_readNumber 4 rfl) ?_
      refine lv_aload_n (pc := 9) hx hb (tb_at tk_X4_readNumber 5 rfl) rfl (lv_at hl 0 rfl) ?_
      refine k_get (pc := 10) (v := .int z_length) (T := TX4) B inG4 hW 0 rfl rfl 2 (by decide) q_f_X4_22 rfl rfl (tb_at tk_X4_readNumber 6 rfl) ?_
      refine lv_icmp_ge (pc := 13) (tgt := 77) hx hb (tb_at tk_X4_readNumber 7 rfl) (by decide) (fun cc => ?_) (fun cc => ?_)
      · have h := it_t cc h
        exact w77 z_place_l5 z_value_l5 _ _ _ h hW hS (lv_sub hl [0] rfl)
      · have h := it_f cc h
        refine lv_aload_n (pc := 16) hx hb (tb_at tk_X4_readNumber 8 rfl) rfl (lv_at hl 0 rfl) ?_
        refine k_get (pc := 17) (v := .ref z_letters_a) (T := TX4) B inG4 hW 0 rfl rfl 1 (by decide) q_f_X4_18 rfl rfl (tb_at tk_X4_readNumber 9 rfl) ?_
        refine lv_aload_n (pc := 20) hx hb (tb_at tk_X4_readNumber 10 rfl) rfl (lv_at hl 0 rfl) ?_
        refine k_get (pc := 21) (v := .int z_place_l5) (T := TX4) B inG4 hW 0 rfl rfl 3 (by decide) q_f_X4_29 rfl rfl (tb_at tk_X4_readNumber 11 rfl) ?_
        have ii := ivi_in (ck_l h)
        have h := ck_r h
        refine k_iald (pc := 24) B hW 1 0 rfl rfl ii (tb_at tk_X4_readNumber 12 rfl) ?_
        refine k_call0 (pc := 25) B (k_runSi (rest := []) (host := "") B (c_X4_isDigit l dC dI cI cZ cQ cW   (z_letters (z_place_l5).toNatClampNeg) N _ res h) E0_st (fun _ _ _ => trivial) q_c_X4_isDigit q_m_X4_85 q_t_X4_isDigit q_n_X4 hd_X4_isDigit ⟨rfl, rfl⟩ ⟨Nat.le_of_ble_eq_true rfl, Nat.le_of_ble_eq_true rfl⟩ hW [] rfl (by decide +kernel) rfl hl.1 rfl (Nat.le_of_ble_eq_true rfl) (tb_at tk_X4_readNumber 13 rfl) ⟨Nat.zero_le _, Nat.zero_le _⟩) hW hS (fun r25 u H locs h hW hS => ?_)
        refine lv_if_eq (pc := 28) (tgt := 77) hx hb (tb_at tk_X4_readNumber 14 rfl) (by decide) (fun cc => ?_) (fun cc => ?_)
        · have h := it_t cc h
          exact w77 z_place_l5 z_value_l5 _ _ _ h hW hS (lv_sub hl [0] rfl)
        · have h := it_f cc h
          refine lv_aload_n (pc := 31) hx hb (tb_at tk_X4_readNumber 15 rfl) rfl (lv_at hl 0 rfl) ?_
          refine k_get (pc := 32) (v := .int z_value_l5) (T := TX4) B inG4 hW 0 rfl rfl 6 (by decide) q_f_X4_62 rfl rfl (tb_at tk_X4_readNumber 16 rfl) ?_
          refine lv_bipush (pc := 35) (v := 99) hx hb (tb_at tk_X4_readNumber 17 rfl) (by decide) ?_
          have w64 : ∀ (z_value_j64 : Int32) (H : Heap) (locs : List Loc) (ls : Array Slot), f_X4_readNumber_j64 z_place_l5 (f_X4_readNumber_l5 z_length z_letters (fun z_place_e77 z_value_e77 => f_X4_readNumber_e77 z_tokenPlace z_letters k z_place_e77 z_value_e77) N n5) z_value_j64 = some res → PD (dC, dI) A (w_X4_readNumber cI cZ cQ cW z_o zd_o z_letters_a z_length z_place_l5 z_tokenPlace z_token z_value_j64 z_lawTold z_letters) H → va_S A s.heap H locs → lv_has ls 2 [(0, .ref z_o)] → W p l e rm_X4_readNumber s m args below meth c H locs 0 0 Q (F0 m 64 ls []) := by
            intro z_value_j64 H locs ls h hW hS hl
            unfold f_X4_readNumber_j64 at h
            refine lv_aload_n (pc := 64) hx hb (tb_at tk_X4_readNumber 33 rfl) rfl (lv_at hl 0 rfl) ?_
            refine lv_dup (pc := 65) hx hb (tb_at tk_X4_readNumber 34 rfl) rfl ?_
            refine k_get (pc := 66) (v := .int z_place_l5) (T := TX4) B inG4 hW 0 rfl rfl 3 (by decide) q_f_X4_29 rfl rfl (tb_at tk_X4_readNumber 35 rfl) ?_
            refine lv_iconst (pc := 69) (v := 1) hx hb (tb_at tk_X4_readNumber 36 rfl) (by decide) ?_
            refine lv_iadd (pc := 70) hx hb (tb_at tk_X4_readNumber 37 rfl) ?_
            refine k_put (pc := 71) (T := TX4) B inG4 tyX4 tyX4_ok nmX4 hW hS 0 rfl rfl 3 (by decide) q_f_X4_29 rfl rfl rfl rfl (Nat.le_of_ble_eq_true rfl) (tb_at tk_X4_readNumber 38 rfl) (w_X4_readNumber cI cZ cQ cW z_o zd_o z_letters_a z_length (z_place_l5 + 1) z_tokenPlace z_token z_value_j64 z_lawTold z_letters) rfl (fun H locs hW hS => ?_)
            refine lv_goto (pc := 74) (tgt := 5) hx hb (tb_at tk_X4_readNumber 39 rfl) (by decide) ?_
            exact ih5 (z_place_l5 + 1) z_value_j64 _ _ _ h hW hS (lv_sub hl [0] rfl)
          refine lv_icmp_gt (pc := 37) (tgt := 64) hx hb (tb_at tk_X4_readNumber 18 rfl) (by decide) (fun cc => ?_) (fun cc => ?_)
          · have h := it_t cc h
            exact w64 z_value_l5 _ _ _ h hW hS (lv_sub hl [0] rfl)
          · have h := it_f cc h
            refine lv_aload_n (pc := 40) hx hb (tb_at tk_X4_readNumber 19 rfl) rfl (lv_at hl 0 rfl) ?_
            refine lv_aload_n (pc := 41) hx hb (tb_at tk_X4_readNumber 20 rfl) rfl (lv_at hl 0 rfl) ?_
            refine k_get (pc := 42) (v := .int z_value_l5) (T := TX4) B inG4 hW 0 rfl rfl 6 (by decide) q_f_X4_62 rfl rfl (tb_at tk_X4_readNumber 21 rfl) ?_
            refine lv_bipush (pc := 45) (v := 10) hx hb (tb_at tk_X4_readNumber 22 rfl) (by decide) ?_
            refine lv_imul (pc := 47) hx hb (tb_at tk_X4_readNumber 23 rfl) ?_
            refine lv_aload_n (pc := 48) hx hb (tb_at tk_X4_readNumber 24 rfl) rfl (lv_at hl 0 rfl) ?_
            refine k_get (pc := 49) (v := .ref z_letters_a) (T := TX4) B inG4 hW 0 rfl rfl 1 (by decide) q_f_X4_18 rfl rfl (tb_at tk_X4_readNumber 25 rfl) ?_
            refine lv_aload_n (pc := 52) hx hb (tb_at tk_X4_readNumber 26 rfl) rfl (lv_at hl 0 rfl) ?_
            refine k_get (pc := 53) (v := .int z_place_l5) (T := TX4) B inG4 hW 0 rfl rfl 3 (by decide) q_f_X4_29 rfl rfl (tb_at tk_X4_readNumber 27 rfl) ?_
            have ii := ivi_in (ck_l h)
            have h := ck_r h
            refine k_iald (pc := 56) B hW 1 0 rfl rfl ii (tb_at tk_X4_readNumber 28 rfl) ?_
            refine lv_iadd (pc := 57) hx hb (tb_at tk_X4_readNumber 29 rfl) ?_
            refine lv_bipush (pc := 58) (v := 48) hx hb (tb_at tk_X4_readNumber 30 rfl) (by decide) ?_
            refine lv_isub (pc := 60) hx hb (tb_at tk_X4_readNumber 31 rfl) ?_
            refine k_put (pc := 61) (T := TX4) B inG4 tyX4 tyX4_ok nmX4 hW hS 0 rfl rfl 6 (by decide) q_f_X4_62 rfl rfl rfl rfl (Nat.le_of_ble_eq_true rfl) (tb_at tk_X4_readNumber 32 rfl) (w_X4_readNumber cI cZ cQ cW z_o zd_o z_letters_a z_length z_place_l5 z_tokenPlace z_token (((z_value_l5 * 10) + (z_letters (z_place_l5).toNatClampNeg)) - 48) z_lawTold z_letters) rfl (fun H locs hW hS => ?_)
            exact w64 (((z_value_l5 * 10) + (z_letters (z_place_l5).toNatClampNeg)) - 48) _ _ _ h hW hS (lv_sub hl [0] rfl)
  exact w5 N z_place 0 _ _ _ h hW hS (lv_sub hl [0] rfl)
def f_X4_step_j99 {ρ : Type} (z_place_e38 : Int32) (z_place_84 : Int32) (z_value_84 : Int32) (k : Int32 → Int32 → Int32 → Int32 → Option ρ) (s1_j99 : Int32) : Option ρ := k z_place_84 z_place_e38 s1_j99 z_value_84
def f_X4_step_e38 {ρ : Type} (z_value : Int32) (z_length : Int32) (z_letters : Nat → Int32) (k : Int32 → Int32 → Int32 → Int32 → Option ρ) (N : Nat) (z_place_e38 : Int32) : Option ρ := if z_place_e38 < z_length then (ck (ivi z_place_e38 150) (f_X4_isDigit N (z_letters (z_place_e38).toNatClampNeg) (fun r76 => if r76 = 0 then (ck (ivi z_place_e38 150) (k (z_place_e38 + 1) z_place_e38 (z_letters (z_place_e38).toNatClampNeg) z_value)) else (f_X4_readNumber N z_length z_place_e38 z_place_e38 z_letters (fun r84 z_place_84 z_value_84 => if r84 = 0 then (f_X4_step_j99 z_place_e38 z_place_84 z_value_84 k 258) else (f_X4_step_j99 z_place_e38 z_place_84 z_value_84 k 257)))))) else (k z_place_e38 z_place_e38 256 z_value)
def f_X4_step_l0 {ρ : Type} (z_length : Int32) (z_letters : Nat → Int32) (k38 : Int32 → Option ρ) : Nat → Int32 → Option ρ
  | 0, _ => none
  | n0 + 1, z_place_l0 => if z_length ≤ z_place_l0 then (k38 z_place_l0) else (ck (ivi z_place_l0 150) (if (z_letters (z_place_l0).toNatClampNeg) = 32 then ((f_X4_step_l0 z_length z_letters k38 n0) (z_place_l0 + 1)) else (k38 z_place_l0)))
def f_X4_step {ρ : Type} (N : Nat) (z_length : Int32) (z_place : Int32) (z_value : Int32) (z_letters : Nat → Int32) (k : Int32 → Int32 → Int32 → Int32 → Option ρ) : Option ρ := f_X4_step_l0 z_length z_letters (fun z_place_e38 => f_X4_step_e38 z_value z_length z_letters k N z_place_e38) N z_place
abbrev w_X4_step (cI cZ cQ cW : ClassId) (z_o : Nat) (zd_o : Nat) (z_letters_a : Nat) (z_length : Int32) (z_place : Int32) (z_tokenPlace : Int32) (z_token : Int32) (z_value : Int32) (z_lawTold : Int32) (z_letters : Nat → Int32) : va_W := [(z_o, .inr (4, [.ref zd_o, .ref z_letters_a, .int z_length, .int z_place, .int z_tokenPlace, .int z_token, .int z_value, .int z_lawTold])), (z_letters_a, .inl (cI, 150, .inl z_letters))]
abbrev rm_X4_step : Room := { frames := 2, cells := 0, slots := 0, locals := 41 }
set_option maxHeartbeats 4000000 in
set_option maxRecDepth 100000 in
theorem c_X4_step (l : Launch) (dC : Nat → ClassId) (dI : Nat → Nat → Nat) (cI cZ cQ cW : ClassId) (z_o : Nat) (zd_o : Nat) (z_letters_a : Nat) (z_length : Int32) (z_place : Int32) (z_tokenPlace : Int32) (z_token : Int32) (z_value : Int32) (z_lawTold : Int32) (z_letters : Nat → Int32) {ρ : Type} (N : Nat) (k : Int32 → Int32 → Int32 → Int32 → Option ρ) (res : ρ) (h : f_X4_step N z_length z_place z_value z_letters k = some res) : Cv l yX4_step (WS yX4_step cX4_step 1 none) rm_X4_step (dC, dI) (tysG cI cZ cQ cW) E0 [.ref z_o] (w_X4_step cI cZ cQ cW z_o zd_o z_letters_a z_length z_place z_tokenPlace z_token z_value z_lawTold z_letters) (fun (u : Int32 × Int32 × Int32 × Int32) => (w_X4_step cI cZ cQ cW z_o zd_o z_letters_a z_length u.1 u.2.1 u.2.2.1 u.2.2.2 z_lawTold z_letters)) (fun u => k u.1 u.2.1 u.2.2.1 u.2.2.2 = some res) := by
  refine Cv.of (cc := cX4_step) (n := 1) (by decide +kernel) (Nat.le_of_ble_eq_true rfl) ?_
  intro p e s m args below meth c A ls Q B hW hE hS hl hQ
  have hx := B.1
  have hb := B.2.1
  have hl : lv_has ls 1 [(0, .ref z_o)] := hl
  unfold f_X4_step at h
  have w38 : ∀ (z_place_e38 : Int32) (H : Heap) (locs : List Loc) (ls : Array Slot), f_X4_step_e38 z_value z_length z_letters k N z_place_e38 = some res → PD (dC, dI) A (w_X4_step cI cZ cQ cW z_o zd_o z_letters_a z_length z_place_e38 z_tokenPlace z_token z_value z_lawTold z_letters) H → va_S A s.heap H locs → lv_has ls 1 [(0, .ref z_o)] → W p l e rm_X4_step s m args below meth c H locs 0 0 Q (F0 m 38 ls []) := by
    intro z_place_e38 H locs ls h hW hS hl
    unfold f_X4_step_e38 at h
    refine lv_aload_n (pc := 38) hx hb (tb_at tk_X4_step 19 rfl) rfl (lv_at hl 0 rfl) ?_
    refine lv_aload_n (pc := 39) hx hb (tb_at tk_X4_step 20 rfl) rfl (lv_at hl 0 rfl) ?_
    refine k_get (pc := 40) (v := .int z_place_e38) (T := TX4) B inG4 hW 0 rfl rfl 3 (by decide) q_f_X4_29 rfl rfl (tb_at tk_X4_step 21 rfl) ?_
    refine k_put (pc := 43) (T := TX4) B inG4 tyX4 tyX4_ok nmX4 hW hS 0 rfl rfl 4 (by decide) q_f_X4_52 rfl rfl rfl rfl (Nat.le_of_ble_eq_true rfl) (tb_at tk_X4_step 22 rfl) (w_X4_step cI cZ cQ cW z_o zd_o z_letters_a z_length z_place_e38 z_place_e38 z_token z_value z_lawTold z_letters) rfl (fun H locs hW hS => ?_)
    refine lv_aload_n (pc := 46) hx hb (tb_at tk_X4_step 23 rfl) rfl (lv_at hl 0 rfl) ?_
    refine k_get (pc := 47) (v := .int z_place_e38) (T := TX4) B inG4 hW 0 rfl rfl 3 (by decide) q_f_X4_29 rfl rfl (tb_at tk_X4_step 24 rfl) ?_
    refine lv_aload_n (pc := 50) hx hb (tb_at tk_X4_step 25 rfl) rfl (lv_at hl 0 rfl) ?_
    refine k_get (pc := 51) (v := .int z_length) (T := TX4) B inG4 hW 0 rfl rfl 2 (by decide) q_f_X4_22 rfl rfl (tb_at tk_X4_step 26 rfl) ?_
    refine lv_icmp_lt (pc := 54) (tgt := 67) hx hb (tb_at tk_X4_step 27 rfl) (by decide) (fun cc => ?_) (fun cc => ?_)
    · have h := it_t cc h
      refine lv_aload_n (pc := 67) hx hb (tb_at tk_X4_step 32 rfl) rfl (lv_at hl 0 rfl) ?_
      refine k_get (pc := 68) (v := .ref z_letters_a) (T := TX4) B inG4 hW 0 rfl rfl 1 (by decide) q_f_X4_18 rfl rfl (tb_at tk_X4_step 33 rfl) ?_
      refine lv_aload_n (pc := 71) hx hb (tb_at tk_X4_step 34 rfl) rfl (lv_at hl 0 rfl) ?_
      refine k_get (pc := 72) (v := .int z_place_e38) (T := TX4) B inG4 hW 0 rfl rfl 3 (by decide) q_f_X4_29 rfl rfl (tb_at tk_X4_step 35 rfl) ?_
      have ii := ivi_in (ck_l h)
      have h := ck_r h
      refine k_iald (pc := 75) B hW 1 0 rfl rfl ii (tb_at tk_X4_step 36 rfl) ?_
      refine k_call0 (pc := 76) B (k_runSi (rest := []) (host := "") B (c_X4_isDigit l dC dI cI cZ cQ cW   (z_letters (z_place_e38).toNatClampNeg) N _ res h) E0_st (fun _ _ _ => trivial) q_c_X4_isDigit q_m_X4_85 q_t_X4_isDigit q_n_X4 hd_X4_isDigit ⟨rfl, rfl⟩ ⟨Nat.le_of_ble_eq_true rfl, Nat.le_of_ble_eq_true rfl⟩ hW [] rfl (by decide +kernel) rfl hl.1 rfl (Nat.le_of_ble_eq_true rfl) (tb_at tk_X4_step 37 rfl) ⟨Nat.zero_le _, Nat.zero_le _⟩) hW hS (fun r76 u H locs h hW hS => ?_)
      refine lv_if_eq (pc := 79) (tgt := 105) hx hb (tb_at tk_X4_step 38 rfl) (by decide) (fun cc => ?_) (fun cc => ?_)
      · have h := it_t cc h
        refine lv_aload_n (pc := 105) hx hb (tb_at tk_X4_step 48 rfl) rfl (lv_at hl 0 rfl) ?_
        refine lv_aload_n (pc := 106) hx hb (tb_at tk_X4_step 49 rfl) rfl (lv_at hl 0 rfl) ?_
        refine k_get (pc := 107) (v := .ref z_letters_a) (T := TX4) B inG4 hW 0 rfl rfl 1 (by decide) q_f_X4_18 rfl rfl (tb_at tk_X4_step 50 rfl) ?_
        refine lv_aload_n (pc := 110) hx hb (tb_at tk_X4_step 51 rfl) rfl (lv_at hl 0 rfl) ?_
        refine k_get (pc := 111) (v := .int z_place_e38) (T := TX4) B inG4 hW 0 rfl rfl 3 (by decide) q_f_X4_29 rfl rfl (tb_at tk_X4_step 52 rfl) ?_
        have ii := ivi_in (ck_l h)
        have h := ck_r h
        refine k_iald (pc := 114) B hW 1 0 rfl rfl ii (tb_at tk_X4_step 53 rfl) ?_
        refine k_put (pc := 115) (T := TX4) B inG4 tyX4 tyX4_ok nmX4 hW hS 0 rfl rfl 5 (by decide) q_f_X4_39 rfl rfl rfl rfl (Nat.le_of_ble_eq_true rfl) (tb_at tk_X4_step 54 rfl) (w_X4_step cI cZ cQ cW z_o zd_o z_letters_a z_length z_place_e38 z_place_e38 (z_letters (z_place_e38).toNatClampNeg) z_value z_lawTold z_letters) rfl (fun H locs hW hS => ?_)
        refine lv_aload_n (pc := 118) hx hb (tb_at tk_X4_step 55 rfl) rfl (lv_at hl 0 rfl) ?_
        refine lv_dup (pc := 119) hx hb (tb_at tk_X4_step 56 rfl) rfl ?_
        refine k_get (pc := 120) (v := .int z_place_e38) (T := TX4) B inG4 hW 0 rfl rfl 3 (by decide) q_f_X4_29 rfl rfl (tb_at tk_X4_step 57 rfl) ?_
        refine lv_iconst (pc := 123) (v := 1) hx hb (tb_at tk_X4_step 58 rfl) (by decide) ?_
        refine lv_iadd (pc := 124) hx hb (tb_at tk_X4_step 59 rfl) ?_
        refine k_put (pc := 125) (T := TX4) B inG4 tyX4 tyX4_ok nmX4 hW hS 0 rfl rfl 3 (by decide) q_f_X4_29 rfl rfl rfl rfl (Nat.le_of_ble_eq_true rfl) (tb_at tk_X4_step 60 rfl) (w_X4_step cI cZ cQ cW z_o zd_o z_letters_a z_length (z_place_e38 + 1) z_place_e38 (z_letters (z_place_e38).toNatClampNeg) z_value z_lawTold z_letters) rfl (fun H locs hW hS => ?_)
        exact hQ (z_place_e38 + 1, z_place_e38, z_letters (z_place_e38).toNatClampNeg, z_value) _ _ _ 128 h hW hS (tb_at tk_X4_step 61 rfl)
      · have h := it_f cc h
        refine lv_aload_n (pc := 82) hx hb (tb_at tk_X4_step 39 rfl) rfl (lv_at hl 0 rfl) ?_
        refine lv_aload_n (pc := 83) hx hb (tb_at tk_X4_step 40 rfl) rfl (lv_at hl 0 rfl) ?_
        refine k_calli (pc := 84) B (k_runVi (rest := [.ref z_o]) (C := RX4) B (c_X4_readNumber l dC dI cI cZ cQ cW z_o zd_o z_letters_a z_length z_place_e38 z_place_e38 z_token z_value z_lawTold z_letters  N _ res h) E0_st (fun _ _ _ => trivial) q_c_X4_readNumber q_m_X4_89 q_i_X4_readNumber q_s_X4_readNumber q_n_X4 hd_X4_readNumber ⟨rfl, rfl⟩ ⟨Nat.le_of_ble_eq_true rfl, Nat.le_of_ble_eq_true rfl⟩ hW [0, 1] rfl (by decide +kernel) (q0 := 0) (ci := 4) rfl rfl rfl hl.1 rfl (Nat.le_of_ble_eq_true rfl) (tb_at tk_X4_step 41 rfl) ⟨Nat.zero_le _, Nat.zero_le _⟩) hW hS [0, 1] rfl [z_o, z_letters_a] rfl (fun _ => rfl) [some 0, some 1] (by decide +kernel) (fun u => (w_X4_step cI cZ cQ cW z_o zd_o z_letters_a z_length u.1 z_place_e38 z_token u.2 z_lawTold z_letters)) (fun _ => rfl) (fun r84 u H locs h hW hS => ?_)
        obtain ⟨z_place_84, z_value_84⟩ := u
        dsimp only at h
        have hW : PD (dC, dI) A (w_X4_step cI cZ cQ cW z_o zd_o z_letters_a z_length z_place_84 z_place_e38 z_token z_value_84 z_lawTold z_letters) H := hW
        have w99 : ∀ (s1_j99 : Int32) (H : Heap) (locs : List Loc) (ls : Array Slot), f_X4_step_j99 z_place_e38 z_place_84 z_value_84 k s1_j99 = some res → PD (dC, dI) A (w_X4_step cI cZ cQ cW z_o zd_o z_letters_a z_length z_place_84 z_place_e38 z_token z_value_84 z_lawTold z_letters) H → va_S A s.heap H locs → lv_has ls 1 [] → W p l e rm_X4_step s m args below meth c H locs 0 0 Q (F0 m 99 ls [.int s1_j99, .ref z_o]) := by
          intro s1_j99 H locs ls h hW hS hl
          unfold f_X4_step_j99 at h
          refine k_put (pc := 99) (T := TX4) B inG4 tyX4 tyX4_ok nmX4 hW hS 0 rfl rfl 5 (by decide) q_f_X4_39 rfl rfl rfl rfl (Nat.le_of_ble_eq_true rfl) (tb_at tk_X4_step 46 rfl) (w_X4_step cI cZ cQ cW z_o zd_o z_letters_a z_length z_place_84 z_place_e38 s1_j99 z_value_84 z_lawTold z_letters) rfl (fun H locs hW hS => ?_)
          refine lv_goto (pc := 102) (tgt := 128) hx hb (tb_at tk_X4_step 47 rfl) (by decide) ?_
          exact hQ (z_place_84, z_place_e38, s1_j99, z_value_84) _ _ _ 128 h hW hS (tb_at tk_X4_step 61 rfl)
        refine lv_if_eq (pc := 87) (tgt := 96) hx hb (tb_at tk_X4_step 42 rfl) (by decide) (fun cc => ?_) (fun cc => ?_)
        · have h := it_t cc h
          refine lv_sipush (pc := 96) (v := 258) hx hb (tb_at tk_X4_step 45 rfl) (by decide) ?_
          exact w99 258 _ _ _ h hW hS (lv_sub hl [] rfl)
        · have h := it_f cc h
          refine lv_sipush (pc := 90) (v := 257) hx hb (tb_at tk_X4_step 43 rfl) (by decide) ?_
          refine lv_goto (pc := 93) (tgt := 99) hx hb (tb_at tk_X4_step 44 rfl) (by decide) ?_
          exact w99 257 _ _ _ h hW hS (lv_sub hl [] rfl)
    · have h := it_f cc h
      refine lv_aload_n (pc := 57) hx hb (tb_at tk_X4_step 28 rfl) rfl (lv_at hl 0 rfl) ?_
      refine lv_sipush (pc := 58) (v := 256) hx hb (tb_at tk_X4_step 29 rfl) (by decide) ?_
      refine k_put (pc := 61) (T := TX4) B inG4 tyX4 tyX4_ok nmX4 hW hS 0 rfl rfl 5 (by decide) q_f_X4_39 rfl rfl rfl rfl (Nat.le_of_ble_eq_true rfl) (tb_at tk_X4_step 30 rfl) (w_X4_step cI cZ cQ cW z_o zd_o z_letters_a z_length z_place_e38 z_place_e38 256 z_value z_lawTold z_letters) rfl (fun H locs hW hS => ?_)
      refine lv_goto (pc := 64) (tgt := 128) hx hb (tb_at tk_X4_step 31 rfl) (by decide) ?_
      exact hQ (z_place_e38, z_place_e38, 256, z_value) _ _ _ 128 h hW hS (tb_at tk_X4_step 61 rfl)
  have w0 : ∀ (n : Nat), ∀ (z_place_l0 : Int32) (H : Heap) (locs : List Loc) (ls : Array Slot), f_X4_step_l0 z_length z_letters (fun z_place_e38 => f_X4_step_e38 z_value z_length z_letters k N z_place_e38) n z_place_l0 = some res → PD (dC, dI) A (w_X4_step cI cZ cQ cW z_o zd_o z_letters_a z_length z_place_l0 z_tokenPlace z_token z_value z_lawTold z_letters) H → va_S A s.heap H locs → lv_has ls 1 [(0, .ref z_o)] → W p l e rm_X4_step s m args below meth c H locs 0 0 Q (F0 m 0 ls []) := by
    intro n
    induction n with
    | zero => intro z_place_l0 H locs ls h; exact no_n h
    | succ n0 ih0 =>
      intro z_place_l0 H locs ls h hW hS hl
      rw [f_X4_step_l0] at h
      refine lv_aload_n (pc := 0) hx hb (tb_at tk_X4_step 0 rfl) rfl (lv_at hl 0 rfl) ?_
      refine k_get (pc := 1) (v := .int z_place_l0) (T := TX4) B inG4 hW 0 rfl rfl 3 (by decide) q_f_X4_29 rfl rfl (tb_at tk_X4_step 1 rfl) ?_
      refine lv_aload_n (pc := 4) hx hb (tb_at tk_X4_step 2 rfl) rfl (lv_at hl 0 rfl) ?_
      refine k_get (pc := 5) (v := .int z_length) (T := TX4) B inG4 hW 0 rfl rfl 2 (by decide) q_f_X4_22 rfl rfl (tb_at tk_X4_step 3 rfl) ?_
      refine lv_icmp_ge (pc := 8) (tgt := 38) hx hb (tb_at tk_X4_step 4 rfl) (by decide) (fun cc => ?_) (fun cc => ?_)
      · have h := it_t cc h
        exact w38 z_place_l0 _ _ _ h hW hS (lv_sub hl [0] rfl)
      · have h := it_f cc h
        refine lv_aload_n (pc := 11) hx hb (tb_at tk_X4_step 5 rfl) rfl (lv_at hl 0 rfl) ?_
        refine k_get (pc := 12) (v := .ref z_letters_a) (T := TX4) B inG4 hW 0 rfl rfl 1 (by decide) q_f_X4_18 rfl rfl (tb_at tk_X4_step 6 rfl) ?_
        refine lv_aload_n (pc := 15) hx hb (tb_at tk_X4_step 7 rfl) rfl (lv_at hl 0 rfl) ?_
        refine k_get (pc := 16) (v := .int z_place_l0) (T := TX4) B inG4 hW 0 rfl rfl 3 (by decide) q_f_X4_29 rfl rfl (tb_at tk_X4_step 8 rfl) ?_
        have ii := ivi_in (ck_l h)
        have h := ck_r h
        refine k_iald (pc := 19) B hW 1 0 rfl rfl ii (tb_at tk_X4_step 9 rfl) ?_
        refine lv_bipush (pc := 20) (v := 32) hx hb (tb_at tk_X4_step 10 rfl) (by decide) ?_
        refine lv_icmp_ne (pc := 22) (tgt := 38) hx hb (tb_at tk_X4_step 11 rfl) (by decide) (fun cc => ?_) (fun cc => ?_)
        · have h := it_f cc h
          exact w38 z_place_l0 _ _ _ h hW hS (lv_sub hl [0] rfl)
        · have h := it_t cc h
          refine lv_aload_n (pc := 25) hx hb (tb_at tk_X4_step 12 rfl) rfl (lv_at hl 0 rfl) ?_
          refine lv_dup (pc := 26) hx hb (tb_at tk_X4_step 13 rfl) rfl ?_
          refine k_get (pc := 27) (v := .int z_place_l0) (T := TX4) B inG4 hW 0 rfl rfl 3 (by decide) q_f_X4_29 rfl rfl (tb_at tk_X4_step 14 rfl) ?_
          refine lv_iconst (pc := 30) (v := 1) hx hb (tb_at tk_X4_step 15 rfl) (by decide) ?_
          refine lv_iadd (pc := 31) hx hb (tb_at tk_X4_step 16 rfl) ?_
          refine k_put (pc := 32) (T := TX4) B inG4 tyX4 tyX4_ok nmX4 hW hS 0 rfl rfl 3 (by decide) q_f_X4_29 rfl rfl rfl rfl (Nat.le_of_ble_eq_true rfl) (tb_at tk_X4_step 17 rfl) (w_X4_step cI cZ cQ cW z_o zd_o z_letters_a z_length (z_place_l0 + 1) z_tokenPlace z_token z_value z_lawTold z_letters) rfl (fun H locs hW hS => ?_)
          refine lv_goto (pc := 35) (tgt := 0) hx hb (tb_at tk_X4_step 18 rfl) (by decide) ?_
          exact ih0 (z_place_l0 + 1) _ _ _ h hW hS (lv_sub hl [0] rfl)
  exact w0 N z_place _ _ _ h hW hS (lv_sub hl [0] rfl)
def f_X4_stepToNumber {ρ : Type} (N : Nat) (z_length : Int32) (z_place : Int32) (z_value : Int32) (z_letters : Nat → Int32) (x1 : Int32) (x2 : Int32) (k : Int32 → Int32 → Int32 → Int32 → Int32 → Option ρ) : Option ρ := f_X4_step N z_length z_place z_value z_letters (fun z_place_1 z_tokenPlace_1 z_token_1 z_value_1 => if z_token_1 = 257 then (f_X7_within N z_value_1 x1 x2 (fun r20 => if r20 = 0 then (k 0 z_place_1 z_tokenPlace_1 z_token_1 z_value_1) else (k 1 z_place_1 z_tokenPlace_1 z_token_1 z_value_1))) else (k 0 z_place_1 z_tokenPlace_1 z_token_1 z_value_1))
abbrev w_X4_stepToNumber (cI cZ cQ cW : ClassId) (z_o : Nat) (zd_o : Nat) (z_letters_a : Nat) (z_length : Int32) (z_place : Int32) (z_tokenPlace : Int32) (z_token : Int32) (z_value : Int32) (z_lawTold : Int32) (z_letters : Nat → Int32) : va_W := [(z_o, .inr (4, [.ref zd_o, .ref z_letters_a, .int z_length, .int z_place, .int z_tokenPlace, .int z_token, .int z_value, .int z_lawTold])), (z_letters_a, .inl (cI, 150, .inl z_letters))]
abbrev rm_X4_stepToNumber : Room := { frames := 3, cells := 0, slots := 0, locals := 61 }
set_option maxHeartbeats 4000000 in
set_option maxRecDepth 100000 in
theorem c_X4_stepToNumber (l : Launch) (dC : Nat → ClassId) (dI : Nat → Nat → Nat) (cI cZ cQ cW : ClassId) (z_o : Nat) (zd_o : Nat) (z_letters_a : Nat) (z_length : Int32) (z_place : Int32) (z_tokenPlace : Int32) (z_token : Int32) (z_value : Int32) (z_lawTold : Int32) (z_letters : Nat → Int32) (x1 : Int32) (x2 : Int32) {ρ : Type} (N : Nat) (k : Int32 → Int32 → Int32 → Int32 → Int32 → Option ρ) (res : ρ) (h : f_X4_stepToNumber N z_length z_place z_value z_letters x1 x2 k = some res) : Ci l yX4_stepToNumber (WS yX4_stepToNumber cX4_stepToNumber 3 (some .boolean)) rm_X4_stepToNumber (dC, dI) (tysG cI cZ cQ cW) E0 [.ref z_o, .int x1, .int x2] (w_X4_stepToNumber cI cZ cQ cW z_o zd_o z_letters_a z_length z_place z_tokenPlace z_token z_value z_lawTold z_letters) (fun (u : Int32 × Int32 × Int32 × Int32) => (w_X4_stepToNumber cI cZ cQ cW z_o zd_o z_letters_a z_length u.1 u.2.1 u.2.2.1 u.2.2.2 z_lawTold z_letters)) (fun r u => k r u.1 u.2.1 u.2.2.1 u.2.2.2 = some res) := by
  refine Ci.of (cc := cX4_stepToNumber) (n := 3) (by decide +kernel) (Nat.le_of_ble_eq_true rfl) ?_
  intro p e s m args below meth c A ls Q B hW hE hS hl hQ
  have hx := B.1
  have hb := B.2.1
  have hl : lv_has ls 3 [(0, .ref z_o), (1, .int x1), (2, .int x2)] := hl
  unfold f_X4_stepToNumber at h
  refine lv_aload_n (pc := 0) hx hb (tb_at tk_X4_stepToNumber 0 rfl) rfl (lv_at hl 0 rfl) ?_
  refine k_callv (pc := 1) B (k_runVv (rest := []) (C := RX4) B (c_X4_step l dC dI cI cZ cQ cW z_o zd_o z_letters_a z_length z_place z_tokenPlace z_token z_value z_lawTold z_letters  N _ res h) E0_st (fun _ _ _ => trivial) q_c_X4_step q_m_X4_36 q_i_X4_step q_s_X4_step q_n_X4 hd_X4_step ⟨rfl, rfl⟩ ⟨Nat.le_of_ble_eq_true rfl, Nat.le_of_ble_eq_true rfl⟩ hW [0, 1] rfl (by decide +kernel) (q0 := 0) (ci := 4) rfl rfl rfl hl.1 rfl (Nat.le_of_ble_eq_true rfl) (tb_at tk_X4_stepToNumber 1 rfl) ⟨Nat.zero_le _, Nat.zero_le _⟩) hW hS [0, 1] rfl [z_o, z_letters_a] rfl (fun _ => rfl) [some 0, some 1] (by decide +kernel) (fun u => (w_X4_stepToNumber cI cZ cQ cW z_o zd_o z_letters_a z_length u.1 u.2.1 u.2.2.1 u.2.2.2 z_lawTold z_letters)) (fun _ => rfl) (fun u H locs h hW hS => ?_)
  obtain ⟨z_place_1, z_tokenPlace_1, z_token_1, z_value_1⟩ := u
  dsimp only at h
  have hW : PD (dC, dI) A (w_X4_stepToNumber cI cZ cQ cW z_o zd_o z_letters_a z_length z_place_1 z_tokenPlace_1 z_token_1 z_value_1 z_lawTold z_letters) H := hW
  refine lv_aload_n (pc := 4) hx hb (tb_at tk_X4_stepToNumber 2 rfl) rfl (lv_at hl 0 rfl) ?_
  refine k_get (pc := 5) (v := .int z_token_1) (T := TX4) B inG4 hW 0 rfl rfl 5 (by decide) q_f_X4_39 rfl rfl (tb_at tk_X4_stepToNumber 3 rfl) ?_
  refine lv_sipush (pc := 8) (v := 257) hx hb (tb_at tk_X4_stepToNumber 4 rfl) (by decide) ?_
  refine lv_icmp_ne (pc := 11) (tgt := 30) hx hb (tb_at tk_X4_stepToNumber 5 rfl) (by decide) (fun cc => ?_) (fun cc => ?_)
  · have h := it_f cc h
    refine lv_iconst (pc := 30) (v := 0) hx hb (tb_at tk_X4_stepToNumber 14 rfl) (by decide) ?_
    exact hQ 0 (z_place_1, z_tokenPlace_1, z_token_1, z_value_1) _ _ _ 31 nz0 h hW hS (tb_at tk_X4_stepToNumber 15 rfl)
  · have h := it_t cc h
    refine lv_aload_n (pc := 14) hx hb (tb_at tk_X4_stepToNumber 6 rfl) rfl (lv_at hl 0 rfl) ?_
    refine k_get (pc := 15) (v := .int z_value_1) (T := TX4) B inG4 hW 0 rfl rfl 6 (by decide) q_f_X4_62 rfl rfl (tb_at tk_X4_stepToNumber 7 rfl) ?_
    refine lv_iload_n (pc := 18) hx hb (tb_at tk_X4_stepToNumber 8 rfl) rfl (lv_at hl 1 rfl) ?_
    refine lv_iload_n (pc := 19) hx hb (tb_at tk_X4_stepToNumber 9 rfl) rfl (lv_at hl 2 rfl) ?_
    refine k_call0 (pc := 20) B (k_runNi (rest := []) (host := RX7) B (c_X7_within l dC dI cI cZ cQ cW   z_value_1 x1 x2 N _ res h) E0_st (fun _ _ _ => trivial) q_c_X7_within q_h_X4_81 q_t_X7_within q_n_X7 hd_X7_within ⟨rfl, rfl⟩ ⟨Nat.le_of_ble_eq_true rfl, Nat.le_of_ble_eq_true rfl⟩ hW [] rfl (by decide +kernel) rfl hl.1 rfl (Nat.le_of_ble_eq_true rfl) (tb_at tk_X4_stepToNumber 10 rfl) ⟨Nat.zero_le _, Nat.zero_le _⟩) hW hS (fun r20 u H locs h hW hS => ?_)
    refine lv_if_eq (pc := 23) (tgt := 30) hx hb (tb_at tk_X4_stepToNumber 11 rfl) (by decide) (fun cc => ?_) (fun cc => ?_)
    · have h := it_t cc h
      refine lv_iconst (pc := 30) (v := 0) hx hb (tb_at tk_X4_stepToNumber 14 rfl) (by decide) ?_
      exact hQ 0 (z_place_1, z_tokenPlace_1, z_token_1, z_value_1) _ _ _ 31 nz0 h hW hS (tb_at tk_X4_stepToNumber 15 rfl)
    · have h := it_f cc h
      refine lv_iconst (pc := 26) (v := 1) hx hb (tb_at tk_X4_stepToNumber 12 rfl) (by decide) ?_
      refine lv_goto (pc := 27) (tgt := 31) hx hb (tb_at tk_X4_stepToNumber 13 rfl) (by decide) ?_
      exact hQ 1 (z_place_1, z_tokenPlace_1, z_token_1, z_value_1) _ _ _ 31 nz1 h hW hS (tb_at tk_X4_stepToNumber 15 rfl)
def f_X4_stepToEnd {ρ : Type} (N : Nat) (z_length : Int32) (z_place : Int32) (z_value : Int32) (z_letters : Nat → Int32) (k : Int32 → Int32 → Int32 → Int32 → Int32 → Option ρ) : Option ρ := f_X4_step N z_length z_place z_value z_letters (fun z_place_1 z_tokenPlace_1 z_token_1 z_value_1 => if z_token_1 = 59 then (k 1 z_place_1 z_tokenPlace_1 z_token_1 z_value_1) else (k 0 z_place_1 z_tokenPlace_1 z_token_1 z_value_1))
abbrev w_X4_stepToEnd (cI cZ cQ cW : ClassId) (z_o : Nat) (zd_o : Nat) (z_letters_a : Nat) (z_length : Int32) (z_place : Int32) (z_tokenPlace : Int32) (z_token : Int32) (z_value : Int32) (z_lawTold : Int32) (z_letters : Nat → Int32) : va_W := [(z_o, .inr (4, [.ref zd_o, .ref z_letters_a, .int z_length, .int z_place, .int z_tokenPlace, .int z_token, .int z_value, .int z_lawTold])), (z_letters_a, .inl (cI, 150, .inl z_letters))]
abbrev rm_X4_stepToEnd : Room := { frames := 3, cells := 0, slots := 0, locals := 61 }
set_option maxHeartbeats 4000000 in
set_option maxRecDepth 100000 in
theorem c_X4_stepToEnd (l : Launch) (dC : Nat → ClassId) (dI : Nat → Nat → Nat) (cI cZ cQ cW : ClassId) (z_o : Nat) (zd_o : Nat) (z_letters_a : Nat) (z_length : Int32) (z_place : Int32) (z_tokenPlace : Int32) (z_token : Int32) (z_value : Int32) (z_lawTold : Int32) (z_letters : Nat → Int32) {ρ : Type} (N : Nat) (k : Int32 → Int32 → Int32 → Int32 → Int32 → Option ρ) (res : ρ) (h : f_X4_stepToEnd N z_length z_place z_value z_letters k = some res) : Ci l yX4_stepToEnd (WS yX4_stepToEnd cX4_stepToEnd 1 (some .boolean)) rm_X4_stepToEnd (dC, dI) (tysG cI cZ cQ cW) E0 [.ref z_o] (w_X4_stepToEnd cI cZ cQ cW z_o zd_o z_letters_a z_length z_place z_tokenPlace z_token z_value z_lawTold z_letters) (fun (u : Int32 × Int32 × Int32 × Int32) => (w_X4_stepToEnd cI cZ cQ cW z_o zd_o z_letters_a z_length u.1 u.2.1 u.2.2.1 u.2.2.2 z_lawTold z_letters)) (fun r u => k r u.1 u.2.1 u.2.2.1 u.2.2.2 = some res) := by
  refine Ci.of (cc := cX4_stepToEnd) (n := 1) (by decide +kernel) (Nat.le_of_ble_eq_true rfl) ?_
  intro p e s m args below meth c A ls Q B hW hE hS hl hQ
  have hx := B.1
  have hb := B.2.1
  have hl : lv_has ls 1 [(0, .ref z_o)] := hl
  unfold f_X4_stepToEnd at h
  refine lv_aload_n (pc := 0) hx hb (tb_at tk_X4_stepToEnd 0 rfl) rfl (lv_at hl 0 rfl) ?_
  refine k_callv (pc := 1) B (k_runVv (rest := []) (C := RX4) B (c_X4_step l dC dI cI cZ cQ cW z_o zd_o z_letters_a z_length z_place z_tokenPlace z_token z_value z_lawTold z_letters  N _ res h) E0_st (fun _ _ _ => trivial) q_c_X4_step q_m_X4_36 q_i_X4_step q_s_X4_step q_n_X4 hd_X4_step ⟨rfl, rfl⟩ ⟨Nat.le_of_ble_eq_true rfl, Nat.le_of_ble_eq_true rfl⟩ hW [0, 1] rfl (by decide +kernel) (q0 := 0) (ci := 4) rfl rfl rfl hl.1 rfl (Nat.le_of_ble_eq_true rfl) (tb_at tk_X4_stepToEnd 1 rfl) ⟨Nat.zero_le _, Nat.zero_le _⟩) hW hS [0, 1] rfl [z_o, z_letters_a] rfl (fun _ => rfl) [some 0, some 1] (by decide +kernel) (fun u => (w_X4_stepToEnd cI cZ cQ cW z_o zd_o z_letters_a z_length u.1 u.2.1 u.2.2.1 u.2.2.2 z_lawTold z_letters)) (fun _ => rfl) (fun u H locs h hW hS => ?_)
  obtain ⟨z_place_1, z_tokenPlace_1, z_token_1, z_value_1⟩ := u
  dsimp only at h
  have hW : PD (dC, dI) A (w_X4_stepToEnd cI cZ cQ cW z_o zd_o z_letters_a z_length z_place_1 z_tokenPlace_1 z_token_1 z_value_1 z_lawTold z_letters) H := hW
  refine lv_aload_n (pc := 4) hx hb (tb_at tk_X4_stepToEnd 2 rfl) rfl (lv_at hl 0 rfl) ?_
  refine k_get (pc := 5) (v := .int z_token_1) (T := TX4) B inG4 hW 0 rfl rfl 5 (by decide) q_f_X4_39 rfl rfl (tb_at tk_X4_stepToEnd 3 rfl) ?_
  refine lv_bipush (pc := 8) (v := 59) hx hb (tb_at tk_X4_stepToEnd 4 rfl) (by decide) ?_
  refine lv_icmp_ne (pc := 10) (tgt := 17) hx hb (tb_at tk_X4_stepToEnd 5 rfl) (by decide) (fun cc => ?_) (fun cc => ?_)
  · have h := it_f cc h
    refine lv_iconst (pc := 17) (v := 0) hx hb (tb_at tk_X4_stepToEnd 8 rfl) (by decide) ?_
    exact hQ 0 (z_place_1, z_tokenPlace_1, z_token_1, z_value_1) _ _ _ 18 nz0 h hW hS (tb_at tk_X4_stepToEnd 9 rfl)
  · have h := it_t cc h
    refine lv_iconst (pc := 13) (v := 1) hx hb (tb_at tk_X4_stepToEnd 6 rfl) (by decide) ?_
    refine lv_goto (pc := 14) (tgt := 18) hx hb (tb_at tk_X4_stepToEnd 7 rfl) (by decide) ?_
    exact hQ 1 (z_place_1, z_tokenPlace_1, z_token_1, z_value_1) _ _ _ 18 nz1 h hW hS (tb_at tk_X4_stepToEnd 9 rfl)
def f_X4_readPerson {ρ : Type} (N : Nat) (z_length : Int32) (z_place : Int32) (z_tokenPlace : Int32) (z_token : Int32) (z_value : Int32) (zd_size : Int32) (z_letters : Nat → Int32) (zd_weight : Nat → Int32) (zd_nights : Nat → Int32) (zd_wantCount : Nat → Int32) (zd_wantBits : Nat → Int32) (k : Int32 → Int32 → Int32 → Int32 → Int32 → Int32 → (Nat → Int32) → (Nat → Int32) → (Nat → Int32) → (Nat → Int32) → Option ρ) : Option ρ := if 6 ≤ zd_size then (k 0 z_place z_tokenPlace z_token z_value zd_size zd_weight zd_nights zd_wantCount zd_wantBits) else (f_X4_stepToNumber N z_length z_place z_value z_letters 1 60 (fun r16 z_place_16 z_tokenPlace_16 z_token_16 z_value_16 => if r16 = 0 then (k 0 z_place_16 z_tokenPlace_16 z_token_16 z_value_16 zd_size zd_weight zd_nights zd_wantCount zd_wantBits) else (f_X4_stepToNumber N z_length z_place_16 z_value_16 z_letters 1 9 (fun r33 z_place_33 z_tokenPlace_33 z_token_33 z_value_33 => if r33 = 0 then (k 0 z_place_33 z_tokenPlace_33 z_token_33 z_value_33 zd_size zd_weight zd_nights zd_wantCount zd_wantBits) else (f_X4_stepToEnd N z_length z_place_33 z_value_33 z_letters (fun r47 z_place_47 z_tokenPlace_47 z_token_47 z_value_47 => if r47 = 0 then (k 0 z_place_47 z_tokenPlace_47 z_token_47 z_value_47 zd_size zd_weight zd_nights zd_wantCount zd_wantBits) else (f_X2_addPerson N zd_size zd_weight zd_nights zd_wantCount zd_wantBits z_value_16 z_value_33 (fun r59 zd_size_59 zd_weight_59 zd_nights_59 zd_wantCount_59 zd_wantBits_59 => if r59 = 0 then (k 0 z_place_47 z_tokenPlace_47 z_token_47 z_value_47 zd_size_59 zd_weight_59 zd_nights_59 zd_wantCount_59 zd_wantBits_59) else (k 1 z_place_47 z_tokenPlace_47 z_token_47 z_value_47 zd_size_59 zd_weight_59 zd_nights_59 zd_wantCount_59 zd_wantBits_59)))))))))
abbrev w_X4_readPerson (cI cZ cQ cW : ClassId) (z_o : Nat) (zd_o : Nat) (z_letters_a : Nat) (zd_weight_a : Nat) (zd_nights_a : Nat) (zd_wanted_a : Nat) (zd_wantCount_a : Nat) (zd_wantBits_a : Nat) (z_length : Int32) (z_place : Int32) (z_tokenPlace : Int32) (z_token : Int32) (z_value : Int32) (z_lawTold : Int32) (zd_size : Int32) (zd_law : Int32) (z_letters : Nat → Int32) (zd_weight : Nat → Int32) (zd_nights : Nat → Int32) (zd_wantCount : Nat → Int32) (zd_wantBits : Nat → Int32) : va_W := [(z_o, .inr (4, [.ref zd_o, .ref z_letters_a, .int z_length, .int z_place, .int z_tokenPlace, .int z_token, .int z_value, .int z_lawTold])), (zd_o, .inr (2, [.ref zd_weight_a, .ref zd_nights_a, .ref zd_wanted_a, .ref zd_wantCount_a, .ref zd_wantBits_a, .int zd_size, .int zd_law])), (z_letters_a, .inl (cI, 150, .inl z_letters)), (zd_weight_a, .inl (cI, 6, .inl zd_weight)), (zd_nights_a, .inl (cI, 6, .inl zd_nights)), (zd_wantCount_a, .inl (cI, 6, .inl zd_wantCount)), (zd_wantBits_a, .inl (cI, 6, .inl zd_wantBits))]
abbrev rm_X4_readPerson : Room := { frames := 4, cells := 0, slots := 0, locals := 83 }
set_option maxHeartbeats 4000000 in
set_option maxRecDepth 100000 in
theorem c_X4_readPerson (l : Launch) (dC : Nat → ClassId) (dI : Nat → Nat → Nat) (cI cZ cQ cW : ClassId) (z_o : Nat) (zd_o : Nat) (z_letters_a : Nat) (zd_weight_a : Nat) (zd_nights_a : Nat) (zd_wanted_a : Nat) (zd_wantCount_a : Nat) (zd_wantBits_a : Nat) (z_length : Int32) (z_place : Int32) (z_tokenPlace : Int32) (z_token : Int32) (z_value : Int32) (z_lawTold : Int32) (zd_size : Int32) (zd_law : Int32) (z_letters : Nat → Int32) (zd_weight : Nat → Int32) (zd_nights : Nat → Int32) (zd_wantCount : Nat → Int32) (zd_wantBits : Nat → Int32) {ρ : Type} (N : Nat) (k : Int32 → Int32 → Int32 → Int32 → Int32 → Int32 → (Nat → Int32) → (Nat → Int32) → (Nat → Int32) → (Nat → Int32) → Option ρ) (res : ρ) (h : f_X4_readPerson N z_length z_place z_tokenPlace z_token z_value zd_size z_letters zd_weight zd_nights zd_wantCount zd_wantBits k = some res) : Ci l yX4_readPerson (WS yX4_readPerson cX4_readPerson 3 (some .boolean)) rm_X4_readPerson (dC, dI) (tysG cI cZ cQ cW) E0 [.ref z_o] (w_X4_readPerson cI cZ cQ cW z_o zd_o z_letters_a zd_weight_a zd_nights_a zd_wanted_a zd_wantCount_a zd_wantBits_a z_length z_place z_tokenPlace z_token z_value z_lawTold zd_size zd_law z_letters zd_weight zd_nights zd_wantCount zd_wantBits) (fun (u : Int32 × Int32 × Int32 × Int32 × Int32 × (Nat → Int32) × (Nat → Int32) × (Nat → Int32) × (Nat → Int32)) => (w_X4_readPerson cI cZ cQ cW z_o zd_o z_letters_a zd_weight_a zd_nights_a zd_wanted_a zd_wantCount_a zd_wantBits_a z_length u.1 u.2.1 u.2.2.1 u.2.2.2.1 z_lawTold u.2.2.2.2.1 zd_law z_letters u.2.2.2.2.2.1 u.2.2.2.2.2.2.1 u.2.2.2.2.2.2.2.1 u.2.2.2.2.2.2.2.2)) (fun r u => k r u.1 u.2.1 u.2.2.1 u.2.2.2.1 u.2.2.2.2.1 u.2.2.2.2.2.1 u.2.2.2.2.2.2.1 u.2.2.2.2.2.2.2.1 u.2.2.2.2.2.2.2.2 = some res) := by
  refine Ci.of (cc := cX4_readPerson) (n := 3) (by decide +kernel) (Nat.le_of_ble_eq_true rfl) ?_
  intro p e s m args below meth c A ls Q B hW hE hS hl hQ
  have hx := B.1
  have hb := B.2.1
  have hl : lv_has ls 3 [(0, .ref z_o)] := hl
  unfold f_X4_readPerson at h
  refine lv_aload_n (pc := 0) hx hb (tb_at tk_X4_readPerson 0 rfl) rfl (lv_at hl 0 rfl) ?_
  refine k_get (pc := 1) (v := .ref zd_o) (T := TX4) B inG4 hW 0 rfl rfl 0 (by decide) q_f_X4_12 rfl rfl (tb_at tk_X4_readPerson 1 rfl) ?_
  refine k_get (pc := 4) (v := .int zd_size) (T := TX2) B inG2 hW 1 rfl rfl 5 (by decide) q_f_X4_55 rfl rfl (tb_at tk_X4_readPerson 2 rfl) ?_
  refine lv_bipush (pc := 7) (v := 6) hx hb (tb_at tk_X4_readPerson 3 rfl) (by decide) ?_
  refine lv_icmp_ge (pc := 9) (tgt := 22) hx hb (tb_at tk_X4_readPerson 4 rfl) (by decide) (fun cc => ?_) (fun cc => ?_)
  · have h := it_t cc h
    refine lv_iconst (pc := 22) (v := 0) hx hb (tb_at tk_X4_readPerson 10 rfl) (by decide) ?_
    exact hQ 0 (z_place, z_tokenPlace, z_token, z_value, zd_size, zd_weight, zd_nights, zd_wantCount, zd_wantBits) _ _ _ 23 nz0 h hW hS (tb_at tk_X4_readPerson 11 rfl)
  · have h := it_f cc h
    refine lv_aload_n (pc := 12) hx hb (tb_at tk_X4_readPerson 5 rfl) rfl (lv_at hl 0 rfl) ?_
    refine lv_iconst (pc := 13) (v := 1) hx hb (tb_at tk_X4_readPerson 6 rfl) (by decide) ?_
    refine lv_bipush (pc := 14) (v := 60) hx hb (tb_at tk_X4_readPerson 7 rfl) (by decide) ?_
    refine k_calli (pc := 16) B (k_runVi (rest := []) (C := RX4) B (c_X4_stepToNumber l dC dI cI cZ cQ cW z_o zd_o z_letters_a z_length z_place z_tokenPlace z_token z_value z_lawTold z_letters 1 60 N _ res h) E0_st (fun _ _ _ => trivial) q_c_X4_stepToNumber q_m_X4_58 q_i_X4_stepToNumber q_s_X4_stepToNumber q_n_X4 hd_X4_stepToNumber ⟨rfl, rfl⟩ ⟨Nat.le_of_ble_eq_true rfl, Nat.le_of_ble_eq_true rfl⟩ hW [0, 2] rfl (by decide +kernel) (q0 := 0) (ci := 4) rfl rfl rfl hl.1 rfl (Nat.le_of_ble_eq_true rfl) (tb_at tk_X4_readPerson 8 rfl) ⟨Nat.zero_le _, Nat.zero_le _⟩) hW hS [0, 2] rfl [z_o, z_letters_a] rfl (fun _ => rfl) [some 0, none, some 1, none, none, none, none] (by decide +kernel) (fun u => (w_X4_readPerson cI cZ cQ cW z_o zd_o z_letters_a zd_weight_a zd_nights_a zd_wanted_a zd_wantCount_a zd_wantBits_a z_length u.1 u.2.1 u.2.2.1 u.2.2.2 z_lawTold zd_size zd_law z_letters zd_weight zd_nights zd_wantCount zd_wantBits)) (fun _ => rfl) (fun r16 u H locs h hW hS => ?_)
    obtain ⟨z_place_16, z_tokenPlace_16, z_token_16, z_value_16⟩ := u
    dsimp only at h
    have hW : PD (dC, dI) A (w_X4_readPerson cI cZ cQ cW z_o zd_o z_letters_a zd_weight_a zd_nights_a zd_wanted_a zd_wantCount_a zd_wantBits_a z_length z_place_16 z_tokenPlace_16 z_token_16 z_value_16 z_lawTold zd_size zd_law z_letters zd_weight zd_nights zd_wantCount zd_wantBits) H := hW
    refine lv_if_ne (pc := 19) (tgt := 24) hx hb (tb_at tk_X4_readPerson 9 rfl) (by decide) (fun cc => ?_) (fun cc => ?_)
    · have h := it_f cc h
      refine lv_aload_n (pc := 24) hx hb (tb_at tk_X4_readPerson 12 rfl) rfl (lv_at hl 0 rfl) ?_
      refine k_get (pc := 25) (v := .int z_value_16) (T := TX4) B inG4 hW 0 rfl rfl 6 (by decide) q_f_X4_62 rfl rfl (tb_at tk_X4_readPerson 13 rfl) ?_
      refine lv_istore_n (pc := 28) (lv' := [(1, .int z_value_16), (0, .ref z_o)]) hx hb (tb_at tk_X4_readPerson 14 rfl) rfl hl (by decide) rfl (fun ls hl => ?_)
      refine lv_aload_n (pc := 29) hx hb (tb_at tk_X4_readPerson 15 rfl) rfl (lv_at hl 1 rfl) ?_
      refine lv_iconst (pc := 30) (v := 1) hx hb (tb_at tk_X4_readPerson 16 rfl) (by decide) ?_
      refine lv_bipush (pc := 31) (v := 9) hx hb (tb_at tk_X4_readPerson 17 rfl) (by decide) ?_
      refine k_calli (pc := 33) B (k_runVi (rest := []) (C := RX4) B (c_X4_stepToNumber l dC dI cI cZ cQ cW z_o zd_o z_letters_a z_length z_place_16 z_tokenPlace_16 z_token_16 z_value_16 z_lawTold z_letters 1 9 N _ res h) E0_st (fun _ _ _ => trivial) q_c_X4_stepToNumber q_m_X4_58 q_i_X4_stepToNumber q_s_X4_stepToNumber q_n_X4 hd_X4_stepToNumber ⟨rfl, rfl⟩ ⟨Nat.le_of_ble_eq_true rfl, Nat.le_of_ble_eq_true rfl⟩ hW [0, 2] rfl (by decide +kernel) (q0 := 0) (ci := 4) rfl rfl rfl hl.1 rfl (Nat.le_of_ble_eq_true rfl) (tb_at tk_X4_readPerson 18 rfl) ⟨Nat.zero_le _, Nat.zero_le _⟩) hW hS [0, 2] rfl [z_o, z_letters_a] rfl (fun _ => rfl) [some 0, none, some 1, none, none, none, none] (by decide +kernel) (fun u => (w_X4_readPerson cI cZ cQ cW z_o zd_o z_letters_a zd_weight_a zd_nights_a zd_wanted_a zd_wantCount_a zd_wantBits_a z_length u.1 u.2.1 u.2.2.1 u.2.2.2 z_lawTold zd_size zd_law z_letters zd_weight zd_nights zd_wantCount zd_wantBits)) (fun _ => rfl) (fun r33 u H locs h hW hS => ?_)
      obtain ⟨z_place_33, z_tokenPlace_33, z_token_33, z_value_33⟩ := u
      dsimp only at h
      have hW : PD (dC, dI) A (w_X4_readPerson cI cZ cQ cW z_o zd_o z_letters_a zd_weight_a zd_nights_a zd_wanted_a zd_wantCount_a zd_wantBits_a z_length z_place_33 z_tokenPlace_33 z_token_33 z_value_33 z_lawTold zd_size zd_law z_letters zd_weight zd_nights zd_wantCount zd_wantBits) H := hW
      refine lv_if_ne (pc := 36) (tgt := 41) hx hb (tb_at tk_X4_readPerson 19 rfl) (by decide) (fun cc => ?_) (fun cc => ?_)
      · have h := it_f cc h
        refine lv_aload_n (pc := 41) hx hb (tb_at tk_X4_readPerson 22 rfl) rfl (lv_at hl 1 rfl) ?_
        refine k_get (pc := 42) (v := .int z_value_33) (T := TX4) B inG4 hW 0 rfl rfl 6 (by decide) q_f_X4_62 rfl rfl (tb_at tk_X4_readPerson 23 rfl) ?_
        refine lv_istore_n (pc := 45) (lv' := [(2, .int z_value_33), (1, .int z_value_16), (0, .ref z_o)]) hx hb (tb_at tk_X4_readPerson 24 rfl) rfl hl (by decide) rfl (fun ls hl => ?_)
        refine lv_aload_n (pc := 46) hx hb (tb_at tk_X4_readPerson 25 rfl) rfl (lv_at hl 2 rfl) ?_
        refine k_calli (pc := 47) B (k_runVi (rest := []) (C := RX4) B (c_X4_stepToEnd l dC dI cI cZ cQ cW z_o zd_o z_letters_a z_length z_place_33 z_tokenPlace_33 z_token_33 z_value_33 z_lawTold z_letters  N _ res h) E0_st (fun _ _ _ => trivial) q_c_X4_stepToEnd q_m_X4_65 q_i_X4_stepToEnd q_s_X4_stepToEnd q_n_X4 hd_X4_stepToEnd ⟨rfl, rfl⟩ ⟨Nat.le_of_ble_eq_true rfl, Nat.le_of_ble_eq_true rfl⟩ hW [0, 2] rfl (by decide +kernel) (q0 := 0) (ci := 4) rfl rfl rfl hl.1 rfl (Nat.le_of_ble_eq_true rfl) (tb_at tk_X4_readPerson 26 rfl) ⟨Nat.zero_le _, Nat.zero_le _⟩) hW hS [0, 2] rfl [z_o, z_letters_a] rfl (fun _ => rfl) [some 0, none, some 1, none, none, none, none] (by decide +kernel) (fun u => (w_X4_readPerson cI cZ cQ cW z_o zd_o z_letters_a zd_weight_a zd_nights_a zd_wanted_a zd_wantCount_a zd_wantBits_a z_length u.1 u.2.1 u.2.2.1 u.2.2.2 z_lawTold zd_size zd_law z_letters zd_weight zd_nights zd_wantCount zd_wantBits)) (fun _ => rfl) (fun r47 u H locs h hW hS => ?_)
        obtain ⟨z_place_47, z_tokenPlace_47, z_token_47, z_value_47⟩ := u
        dsimp only at h
        have hW : PD (dC, dI) A (w_X4_readPerson cI cZ cQ cW z_o zd_o z_letters_a zd_weight_a zd_nights_a zd_wanted_a zd_wantCount_a zd_wantBits_a z_length z_place_47 z_tokenPlace_47 z_token_47 z_value_47 z_lawTold zd_size zd_law z_letters zd_weight zd_nights zd_wantCount zd_wantBits) H := hW
        refine lv_if_eq (pc := 50) (tgt := 69) hx hb (tb_at tk_X4_readPerson 27 rfl) (by decide) (fun cc => ?_) (fun cc => ?_)
        · have h := it_t cc h
          refine lv_iconst (pc := 69) (v := 0) hx hb (tb_at tk_X4_readPerson 36 rfl) (by decide) ?_
          exact hQ 0 (z_place_47, z_tokenPlace_47, z_token_47, z_value_47, zd_size, zd_weight, zd_nights, zd_wantCount, zd_wantBits) _ _ _ 70 nz0 h hW hS (tb_at tk_X4_readPerson 37 rfl)
        · have h := it_f cc h
          refine lv_aload_n (pc := 53) hx hb (tb_at tk_X4_readPerson 28 rfl) rfl (lv_at hl 2 rfl) ?_
          refine k_get (pc := 54) (v := .ref zd_o) (T := TX4) B inG4 hW 0 rfl rfl 0 (by decide) q_f_X4_12 rfl rfl (tb_at tk_X4_readPerson 29 rfl) ?_
          refine lv_iload_n (pc := 57) hx hb (tb_at tk_X4_readPerson 30 rfl) rfl (lv_at hl 1 rfl) ?_
          refine lv_iload_n (pc := 58) hx hb (tb_at tk_X4_readPerson 31 rfl) rfl (lv_at hl 0 rfl) ?_
          refine k_calli (pc := 59) B (k_runVi (rest := []) (C := RX2) B (c_X2_addPerson l dC dI cI cZ cQ cW zd_o zd_weight_a zd_nights_a zd_wanted_a zd_wantCount_a zd_wantBits_a zd_size zd_law zd_weight zd_nights zd_wantCount zd_wantBits z_value_16 z_value_33 N _ res h) E0_st (fun _ _ _ => trivial) q_c_X2_addPerson q_m_X4_68 q_i_X2_addPerson q_s_X2_addPerson q_n_X2 hd_X2_addPerson ⟨rfl, rfl⟩ ⟨Nat.le_of_ble_eq_true rfl, Nat.le_of_ble_eq_true rfl⟩ hW [1, 3, 4, 5, 6] rfl (by decide +kernel) (q0 := 0) (ci := 2) rfl rfl rfl hl.1 rfl (Nat.le_of_ble_eq_true rfl) (tb_at tk_X4_readPerson 32 rfl) ⟨Nat.zero_le _, Nat.zero_le _⟩) hW hS [1, 3, 4, 5, 6] rfl [zd_o, zd_weight_a, zd_nights_a, zd_wantCount_a, zd_wantBits_a] rfl (fun _ => rfl) [none, some 0, none, some 1, some 2, some 3, some 4] (by decide +kernel) (fun u => (w_X4_readPerson cI cZ cQ cW z_o zd_o z_letters_a zd_weight_a zd_nights_a zd_wanted_a zd_wantCount_a zd_wantBits_a z_length z_place_47 z_tokenPlace_47 z_token_47 z_value_47 z_lawTold u.1 zd_law z_letters u.2.1 u.2.2.1 u.2.2.2.1 u.2.2.2.2)) (fun _ => rfl) (fun r59 u H locs h hW hS => ?_)
          obtain ⟨zd_size_59, zd_weight_59, zd_nights_59, zd_wantCount_59, zd_wantBits_59⟩ := u
          dsimp only at h
          have hW : PD (dC, dI) A (w_X4_readPerson cI cZ cQ cW z_o zd_o z_letters_a zd_weight_a zd_nights_a zd_wanted_a zd_wantCount_a zd_wantBits_a z_length z_place_47 z_tokenPlace_47 z_token_47 z_value_47 z_lawTold zd_size_59 zd_law z_letters zd_weight_59 zd_nights_59 zd_wantCount_59 zd_wantBits_59) H := hW
          refine lv_if_eq (pc := 62) (tgt := 69) hx hb (tb_at tk_X4_readPerson 33 rfl) (by decide) (fun cc => ?_) (fun cc => ?_)
          · have h := it_t cc h
            refine lv_iconst (pc := 69) (v := 0) hx hb (tb_at tk_X4_readPerson 36 rfl) (by decide) ?_
            exact hQ 0 (z_place_47, z_tokenPlace_47, z_token_47, z_value_47, zd_size_59, zd_weight_59, zd_nights_59, zd_wantCount_59, zd_wantBits_59) _ _ _ 70 nz0 h hW hS (tb_at tk_X4_readPerson 37 rfl)
          · have h := it_f cc h
            refine lv_iconst (pc := 65) (v := 1) hx hb (tb_at tk_X4_readPerson 34 rfl) (by decide) ?_
            refine lv_goto (pc := 66) (tgt := 70) hx hb (tb_at tk_X4_readPerson 35 rfl) (by decide) ?_
            exact hQ 1 (z_place_47, z_tokenPlace_47, z_token_47, z_value_47, zd_size_59, zd_weight_59, zd_nights_59, zd_wantCount_59, zd_wantBits_59) _ _ _ 70 nz1 h hW hS (tb_at tk_X4_readPerson 37 rfl)
      · have h := it_t cc h
        refine lv_iconst (pc := 39) (v := 0) hx hb (tb_at tk_X4_readPerson 20 rfl) (by decide) ?_
        exact hQ 0 (z_place_33, z_tokenPlace_33, z_token_33, z_value_33, zd_size, zd_weight, zd_nights, zd_wantCount, zd_wantBits) _ _ _ 40 nz0 h hW hS (tb_at tk_X4_readPerson 21 rfl)
    · have h := it_t cc h
      refine lv_iconst (pc := 22) (v := 0) hx hb (tb_at tk_X4_readPerson 10 rfl) (by decide) ?_
      exact hQ 0 (z_place_16, z_tokenPlace_16, z_token_16, z_value_16, zd_size, zd_weight, zd_nights, zd_wantCount, zd_wantBits) _ _ _ 23 nz0 h hW hS (tb_at tk_X4_readPerson 11 rfl)
def f_X4_readWants_e80 {ρ : Type} (k : Int32 → Int32 → Int32 → Int32 → Int32 → (Nat → Int32) → (Nat → Int32) → (Nat → Nat → Int32) → Option ρ) (z_place_e80 : Int32) (z_tokenPlace_e80 : Int32) (z_token_e80 : Int32) (z_value_e80 : Int32) (zd_wantCount_e80 : Nat → Int32) (zd_wantBits_e80 : Nat → Int32) (zd_wanted_e80 : Nat → Nat → Int32) : Option ρ := if z_token_e80 = 59 then (k 1 z_place_e80 z_tokenPlace_e80 z_token_e80 z_value_e80 zd_wantCount_e80 zd_wantBits_e80 zd_wanted_e80) else (k 0 z_place_e80 z_tokenPlace_e80 z_token_e80 z_value_e80 zd_wantCount_e80 zd_wantBits_e80 zd_wanted_e80)
def f_X4_readWants_l38 {ρ : Type} (z_length : Int32) (zd_size : Int32) (z_letters : Nat → Int32) (z_value_11 : Int32) (k : Int32 → Int32 → Int32 → Int32 → Int32 → (Nat → Int32) → (Nat → Int32) → (Nat → Nat → Int32) → Option ρ) (k80 : Int32 → Int32 → Int32 → Int32 → (Nat → Int32) → (Nat → Int32) → (Nat → Nat → Int32) → Option ρ) (N : Nat) : Nat → Int32 → Int32 → Int32 → Int32 → Int32 → (Nat → Int32) → (Nat → Int32) → (Nat → Nat → Int32) → Option ρ
  | 0, _, _, _, _, _, _, _, _ => none
  | n38 + 1, y2_l38, z_place_l38, z_tokenPlace_l38, z_token_l38, z_value_l38, zd_wantCount_l38, zd_wantBits_l38, zd_wanted_l38 => if 4 ≤ y2_l38 then (k80 z_place_l38 z_tokenPlace_l38 z_token_l38 z_value_l38 zd_wantCount_l38 zd_wantBits_l38 zd_wanted_l38) else (if z_token_l38 = 257 then (f_X2_addWant N zd_size zd_wantBits_l38 zd_wantCount_l38 zd_wanted_l38 z_value_11 z_value_l38 (fun r62 zd_wantBits_62 zd_wantCount_62 zd_wanted_62 => if r62 = 0 then (k 0 z_place_l38 z_tokenPlace_l38 z_token_l38 z_value_l38 zd_wantCount_62 zd_wantBits_62 zd_wanted_62) else (f_X4_step N z_length z_place_l38 z_value_l38 z_letters (fun z_place_71 z_tokenPlace_71 z_token_71 z_value_71 => (f_X4_readWants_l38 z_length zd_size z_letters z_value_11 k k80 N n38) (y2_l38 + 1) z_place_71 z_tokenPlace_71 z_token_71 z_value_71 zd_wantCount_62 zd_wantBits_62 zd_wanted_62)))) else (k80 z_place_l38 z_tokenPlace_l38 z_token_l38 z_value_l38 zd_wantCount_l38 zd_wantBits_l38 zd_wanted_l38))
def f_X4_readWants {ρ : Type} (N : Nat) (z_length : Int32) (z_place : Int32) (z_value : Int32) (zd_size : Int32) (z_letters : Nat → Int32) (zd_wantCount : Nat → Int32) (zd_wantBits : Nat → Int32) (zd_wanted : Nat → Nat → Int32) (k : Int32 → Int32 → Int32 → Int32 → Int32 → (Nat → Int32) → (Nat → Int32) → (Nat → Nat → Int32) → Option ρ) : Option ρ := f_X4_stepToNumber N z_length z_place z_value z_letters 0 (zd_size - 1) (fun r11 z_place_11 z_tokenPlace_11 z_token_11 z_value_11 => if r11 = 0 then (k 0 z_place_11 z_tokenPlace_11 z_token_11 z_value_11 zd_wantCount zd_wantBits zd_wanted) else (f_X2_dropWants N zd_wantCount zd_wantBits z_value_11 (fun zd_wantCount_29 zd_wantBits_29 => f_X4_step N z_length z_place_11 z_value_11 z_letters (fun z_place_33 z_tokenPlace_33 z_token_33 z_value_33 => f_X4_readWants_l38 z_length zd_size z_letters z_value_11 k (fun z_place_e80 z_tokenPlace_e80 z_token_e80 z_value_e80 zd_wantCount_e80 zd_wantBits_e80 zd_wanted_e80 => f_X4_readWants_e80 k z_place_e80 z_tokenPlace_e80 z_token_e80 z_value_e80 zd_wantCount_e80 zd_wantBits_e80 zd_wanted_e80) N N 0 z_place_33 z_tokenPlace_33 z_token_33 z_value_33 zd_wantCount_29 zd_wantBits_29 zd_wanted))))
abbrev w_X4_readWants (cI cZ cQ cW : ClassId) (z_o : Nat) (zd_o : Nat) (z_letters_a : Nat) (zd_weight_a : Nat) (zd_nights_a : Nat) (zd_wanted_a : Nat) (zd_wantCount_a : Nat) (zd_wantBits_a : Nat) (zd_wanted_r : Nat → Nat) (z_length : Int32) (z_place : Int32) (z_tokenPlace : Int32) (z_token : Int32) (z_value : Int32) (z_lawTold : Int32) (zd_size : Int32) (zd_law : Int32) (z_letters : Nat → Int32) (zd_wantCount : Nat → Int32) (zd_wantBits : Nat → Int32) (zd_wanted : Nat → Nat → Int32) : va_W := [(z_o, .inr (4, [.ref zd_o, .ref z_letters_a, .int z_length, .int z_place, .int z_tokenPlace, .int z_token, .int z_value, .int z_lawTold])), (zd_o, .inr (2, [.ref zd_weight_a, .ref zd_nights_a, .ref zd_wanted_a, .ref zd_wantCount_a, .ref zd_wantBits_a, .int zd_size, .int zd_law])), (z_letters_a, .inl (cI, 150, .inl z_letters)), (zd_wantCount_a, .inl (cI, 6, .inl zd_wantCount)), (zd_wantBits_a, .inl (cI, 6, .inl zd_wantBits)), (zd_wanted_a, .inl (cW, 6, .inr (.inr (.inr (.inr (fun i => if i < 6 then some (zd_wanted_r i) else none)))))), (zd_wanted_r 0, .inl (cI, 4, .inl (zd_wanted 0))), (zd_wanted_r 1, .inl (cI, 4, .inl (zd_wanted 1))), (zd_wanted_r 2, .inl (cI, 4, .inl (zd_wanted 2))), (zd_wanted_r 3, .inl (cI, 4, .inl (zd_wanted 3))), (zd_wanted_r 4, .inl (cI, 4, .inl (zd_wanted 4))), (zd_wanted_r 5, .inl (cI, 4, .inl (zd_wanted 5)))]
abbrev rm_X4_readWants : Room := { frames := 4, cells := 0, slots := 0, locals := 83 }
set_option maxHeartbeats 4000000 in
set_option maxRecDepth 100000 in
theorem c_X4_readWants (l : Launch) (dC : Nat → ClassId) (dI : Nat → Nat → Nat) (cI cZ cQ cW : ClassId) (z_o : Nat) (zd_o : Nat) (z_letters_a : Nat) (zd_weight_a : Nat) (zd_nights_a : Nat) (zd_wanted_a : Nat) (zd_wantCount_a : Nat) (zd_wantBits_a : Nat) (zd_wanted_r : Nat → Nat) (z_length : Int32) (z_place : Int32) (z_tokenPlace : Int32) (z_token : Int32) (z_value : Int32) (z_lawTold : Int32) (zd_size : Int32) (zd_law : Int32) (z_letters : Nat → Int32) (zd_wantCount : Nat → Int32) (zd_wantBits : Nat → Int32) (zd_wanted : Nat → Nat → Int32) {ρ : Type} (N : Nat) (k : Int32 → Int32 → Int32 → Int32 → Int32 → (Nat → Int32) → (Nat → Int32) → (Nat → Nat → Int32) → Option ρ) (res : ρ) (h : f_X4_readWants N z_length z_place z_value zd_size z_letters zd_wantCount zd_wantBits zd_wanted k = some res) : Ci l yX4_readWants (WS yX4_readWants cX4_readWants 3 (some .boolean)) rm_X4_readWants (dC, dI) (tysG cI cZ cQ cW) E0 [.ref z_o] (w_X4_readWants cI cZ cQ cW z_o zd_o z_letters_a zd_weight_a zd_nights_a zd_wanted_a zd_wantCount_a zd_wantBits_a zd_wanted_r z_length z_place z_tokenPlace z_token z_value z_lawTold zd_size zd_law z_letters zd_wantCount zd_wantBits zd_wanted) (fun (u : Int32 × Int32 × Int32 × Int32 × (Nat → Int32) × (Nat → Int32) × (Nat → Nat → Int32)) => (w_X4_readWants cI cZ cQ cW z_o zd_o z_letters_a zd_weight_a zd_nights_a zd_wanted_a zd_wantCount_a zd_wantBits_a zd_wanted_r z_length u.1 u.2.1 u.2.2.1 u.2.2.2.1 z_lawTold zd_size zd_law z_letters u.2.2.2.2.1 u.2.2.2.2.2.1 u.2.2.2.2.2.2)) (fun r u => k r u.1 u.2.1 u.2.2.1 u.2.2.2.1 u.2.2.2.2.1 u.2.2.2.2.2.1 u.2.2.2.2.2.2 = some res) := by
  refine Ci.of (cc := cX4_readWants) (n := 3) (by decide +kernel) (Nat.le_of_ble_eq_true rfl) ?_
  intro p e s m args below meth c A ls Q B hW hE hS hl hQ
  have hx := B.1
  have hb := B.2.1
  have hl : lv_has ls 3 [(0, .ref z_o)] := hl
  unfold f_X4_readWants at h
  refine lv_aload_n (pc := 0) hx hb (tb_at tk_X4_readWants 0 rfl) rfl (lv_at hl 0 rfl) ?_
  refine lv_iconst (pc := 1) (v := 0) hx hb (tb_at tk_X4_readWants 1 rfl) (by decide) ?_
  refine lv_aload_n (pc := 2) hx hb (tb_at tk_X4_readWants 2 rfl) rfl (lv_at hl 0 rfl) ?_
  refine k_get (pc := 3) (v := .ref zd_o) (T := TX4) B inG4 hW 0 rfl rfl 0 (by decide) q_f_X4_12 rfl rfl (tb_at tk_X4_readWants 3 rfl) ?_
  refine k_get (pc := 6) (v := .int zd_size) (T := TX2) B inG2 hW 1 rfl rfl 5 (by decide) q_f_X4_55 rfl rfl (tb_at tk_X4_readWants 4 rfl) ?_
  refine lv_iconst (pc := 9) (v := 1) hx hb (tb_at tk_X4_readWants 5 rfl) (by decide) ?_
  refine lv_isub (pc := 10) hx hb (tb_at tk_X4_readWants 6 rfl) ?_
  refine k_calli (pc := 11) B (k_runVi (rest := []) (C := RX4) B (c_X4_stepToNumber l dC dI cI cZ cQ cW z_o zd_o z_letters_a z_length z_place z_tokenPlace z_token z_value z_lawTold z_letters 0 (zd_size - 1) N _ res h) E0_st (fun _ _ _ => trivial) q_c_X4_stepToNumber q_m_X4_58 q_i_X4_stepToNumber q_s_X4_stepToNumber q_n_X4 hd_X4_stepToNumber ⟨rfl, rfl⟩ ⟨Nat.le_of_ble_eq_true rfl, Nat.le_of_ble_eq_true rfl⟩ hW [0, 2] rfl (by decide +kernel) (q0 := 0) (ci := 4) rfl rfl rfl hl.1 rfl (Nat.le_of_ble_eq_true rfl) (tb_at tk_X4_readWants 7 rfl) ⟨Nat.zero_le _, Nat.zero_le _⟩) hW hS [0, 2] rfl [z_o, z_letters_a] rfl (fun _ => rfl) [some 0, none, some 1, none, none, none, none, none, none, none, none, none] (by decide +kernel) (fun u => (w_X4_readWants cI cZ cQ cW z_o zd_o z_letters_a zd_weight_a zd_nights_a zd_wanted_a zd_wantCount_a zd_wantBits_a zd_wanted_r z_length u.1 u.2.1 u.2.2.1 u.2.2.2 z_lawTold zd_size zd_law z_letters zd_wantCount zd_wantBits zd_wanted)) (fun _ => rfl) (fun r11 u H locs h hW hS => ?_)
  obtain ⟨z_place_11, z_tokenPlace_11, z_token_11, z_value_11⟩ := u
  dsimp only at h
  have hW : PD (dC, dI) A (w_X4_readWants cI cZ cQ cW z_o zd_o z_letters_a zd_weight_a zd_nights_a zd_wanted_a zd_wantCount_a zd_wantBits_a zd_wanted_r z_length z_place_11 z_tokenPlace_11 z_token_11 z_value_11 z_lawTold zd_size zd_law z_letters zd_wantCount zd_wantBits zd_wanted) H := hW
  refine lv_if_ne (pc := 14) (tgt := 19) hx hb (tb_at tk_X4_readWants 8 rfl) (by decide) (fun cc => ?_) (fun cc => ?_)
  · have h := it_f cc h
    refine lv_aload_n (pc := 19) hx hb (tb_at tk_X4_readWants 11 rfl) rfl (lv_at hl 0 rfl) ?_
    refine k_get (pc := 20) (v := .int z_value_11) (T := TX4) B inG4 hW 0 rfl rfl 6 (by decide) q_f_X4_62 rfl rfl (tb_at tk_X4_readWants 12 rfl) ?_
    refine lv_istore_n (pc := 23) (lv' := [(1, .int z_value_11), (0, .ref z_o)]) hx hb (tb_at tk_X4_readWants 13 rfl) rfl hl (by decide) rfl (fun ls hl => ?_)
    refine lv_aload_n (pc := 24) hx hb (tb_at tk_X4_readWants 14 rfl) rfl (lv_at hl 1 rfl) ?_
    refine k_get (pc := 25) (v := .ref zd_o) (T := TX4) B inG4 hW 0 rfl rfl 0 (by decide) q_f_X4_12 rfl rfl (tb_at tk_X4_readWants 15 rfl) ?_
    refine lv_iload_n (pc := 28) hx hb (tb_at tk_X4_readWants 16 rfl) rfl (lv_at hl 0 rfl) ?_
    refine k_callv (pc := 29) B (k_runVv (rest := []) (C := RX2) B (c_X2_dropWants l dC dI cI cZ cQ cW zd_o zd_weight_a zd_nights_a zd_wanted_a zd_wantCount_a zd_wantBits_a zd_size zd_law zd_wantCount zd_wantBits z_value_11 N _ res h) E0_st (fun _ _ _ => trivial) q_c_X2_dropWants q_m_X4_71 q_i_X2_dropWants q_s_X2_dropWants q_n_X2 hd_X2_dropWants ⟨rfl, rfl⟩ ⟨Nat.le_of_ble_eq_true rfl, Nat.le_of_ble_eq_true rfl⟩ hW [1, 3, 4] rfl (by decide +kernel) (q0 := 0) (ci := 2) rfl rfl rfl hl.1 rfl (Nat.le_of_ble_eq_true rfl) (tb_at tk_X4_readWants 17 rfl) ⟨Nat.zero_le _, Nat.zero_le _⟩) hW hS [1, 3, 4] rfl [zd_o, zd_wantCount_a, zd_wantBits_a] rfl (fun _ => rfl) [none, some 0, none, some 1, some 2, none, none, none, none, none, none, none] (by decide +kernel) (fun u => (w_X4_readWants cI cZ cQ cW z_o zd_o z_letters_a zd_weight_a zd_nights_a zd_wanted_a zd_wantCount_a zd_wantBits_a zd_wanted_r z_length z_place_11 z_tokenPlace_11 z_token_11 z_value_11 z_lawTold zd_size zd_law z_letters u.1 u.2 zd_wanted)) (fun _ => rfl) (fun u H locs h hW hS => ?_)
    obtain ⟨zd_wantCount_29, zd_wantBits_29⟩ := u
    dsimp only at h
    have hW : PD (dC, dI) A (w_X4_readWants cI cZ cQ cW z_o zd_o z_letters_a zd_weight_a zd_nights_a zd_wanted_a zd_wantCount_a zd_wantBits_a zd_wanted_r z_length z_place_11 z_tokenPlace_11 z_token_11 z_value_11 z_lawTold zd_size zd_law z_letters zd_wantCount_29 zd_wantBits_29 zd_wanted) H := hW
    refine lv_aload_n (pc := 32) hx hb (tb_at tk_X4_readWants 18 rfl) rfl (lv_at hl 1 rfl) ?_
    refine k_callv (pc := 33) B (k_runVv (rest := []) (C := RX4) B (c_X4_step l dC dI cI cZ cQ cW z_o zd_o z_letters_a z_length z_place_11 z_tokenPlace_11 z_token_11 z_value_11 z_lawTold z_letters  N _ res h) E0_st (fun _ _ _ => trivial) q_c_X4_step q_m_X4_36 q_i_X4_step q_s_X4_step q_n_X4 hd_X4_step ⟨rfl, rfl⟩ ⟨Nat.le_of_ble_eq_true rfl, Nat.le_of_ble_eq_true rfl⟩ hW [0, 2] rfl (by decide +kernel) (q0 := 0) (ci := 4) rfl rfl rfl hl.1 rfl (Nat.le_of_ble_eq_true rfl) (tb_at tk_X4_readWants 19 rfl) ⟨Nat.zero_le _, Nat.zero_le _⟩) hW hS [0, 2] rfl [z_o, z_letters_a] rfl (fun _ => rfl) [some 0, none, some 1, none, none, none, none, none, none, none, none, none] (by decide +kernel) (fun u => (w_X4_readWants cI cZ cQ cW z_o zd_o z_letters_a zd_weight_a zd_nights_a zd_wanted_a zd_wantCount_a zd_wantBits_a zd_wanted_r z_length u.1 u.2.1 u.2.2.1 u.2.2.2 z_lawTold zd_size zd_law z_letters zd_wantCount_29 zd_wantBits_29 zd_wanted)) (fun _ => rfl) (fun u H locs h hW hS => ?_)
    obtain ⟨z_place_33, z_tokenPlace_33, z_token_33, z_value_33⟩ := u
    dsimp only at h
    have hW : PD (dC, dI) A (w_X4_readWants cI cZ cQ cW z_o zd_o z_letters_a zd_weight_a zd_nights_a zd_wanted_a zd_wantCount_a zd_wantBits_a zd_wanted_r z_length z_place_33 z_tokenPlace_33 z_token_33 z_value_33 z_lawTold zd_size zd_law z_letters zd_wantCount_29 zd_wantBits_29 zd_wanted) H := hW
    refine lv_iconst (pc := 36) (v := 0) hx hb (tb_at tk_X4_readWants 20 rfl) (by decide) ?_
    refine lv_istore_n (pc := 37) (lv' := [(2, .int 0), (1, .int z_value_11), (0, .ref z_o)]) hx hb (tb_at tk_X4_readWants 21 rfl) rfl hl (by decide) rfl (fun ls hl => ?_)
    have w80 : ∀ (z_place_e80 : Int32) (z_tokenPlace_e80 : Int32) (z_token_e80 : Int32) (z_value_e80 : Int32) (zd_wantCount_e80 : Nat → Int32) (zd_wantBits_e80 : Nat → Int32) (zd_wanted_e80 : Nat → Nat → Int32) (H : Heap) (locs : List Loc) (ls : Array Slot), f_X4_readWants_e80 k z_place_e80 z_tokenPlace_e80 z_token_e80 z_value_e80 zd_wantCount_e80 zd_wantBits_e80 zd_wanted_e80 = some res → PD (dC, dI) A (w_X4_readWants cI cZ cQ cW z_o zd_o z_letters_a zd_weight_a zd_nights_a zd_wanted_a zd_wantCount_a zd_wantBits_a zd_wanted_r z_length z_place_e80 z_tokenPlace_e80 z_token_e80 z_value_e80 z_lawTold zd_size zd_law z_letters zd_wantCount_e80 zd_wantBits_e80 zd_wanted_e80) H → va_S A s.heap H locs → lv_has ls 3 [(0, .ref z_o)] → W p l e rm_X4_readWants s m args below meth c H locs 0 0 Q (F0 m 80 ls []) := by
      intro z_place_e80 z_tokenPlace_e80 z_token_e80 z_value_e80 zd_wantCount_e80 zd_wantBits_e80 zd_wanted_e80 H locs ls h hW hS hl
      unfold f_X4_readWants_e80 at h
      refine lv_aload_n (pc := 80) hx hb (tb_at tk_X4_readWants 42 rfl) rfl (lv_at hl 0 rfl) ?_
      refine k_get (pc := 81) (v := .int z_token_e80) (T := TX4) B inG4 hW 0 rfl rfl 5 (by decide) q_f_X4_39 rfl rfl (tb_at tk_X4_readWants 43 rfl) ?_
      refine lv_bipush (pc := 84) (v := 59) hx hb (tb_at tk_X4_readWants 44 rfl) (by decide) ?_
      refine lv_icmp_ne (pc := 86) (tgt := 93) hx hb (tb_at tk_X4_readWants 45 rfl) (by decide) (fun cc => ?_) (fun cc => ?_)
      · have h := it_f cc h
        refine lv_iconst (pc := 93) (v := 0) hx hb (tb_at tk_X4_readWants 48 rfl) (by decide) ?_
        exact hQ 0 (z_place_e80, z_tokenPlace_e80, z_token_e80, z_value_e80, zd_wantCount_e80, zd_wantBits_e80, zd_wanted_e80) _ _ _ 94 nz0 h hW hS (tb_at tk_X4_readWants 49 rfl)
      · have h := it_t cc h
        refine lv_iconst (pc := 89) (v := 1) hx hb (tb_at tk_X4_readWants 46 rfl) (by decide) ?_
        refine lv_goto (pc := 90) (tgt := 94) hx hb (tb_at tk_X4_readWants 47 rfl) (by decide) ?_
        exact hQ 1 (z_place_e80, z_tokenPlace_e80, z_token_e80, z_value_e80, zd_wantCount_e80, zd_wantBits_e80, zd_wanted_e80) _ _ _ 94 nz1 h hW hS (tb_at tk_X4_readWants 49 rfl)
    have w38 : ∀ (n : Nat), ∀ (y2_l38 : Int32) (z_place_l38 : Int32) (z_tokenPlace_l38 : Int32) (z_token_l38 : Int32) (z_value_l38 : Int32) (zd_wantCount_l38 : Nat → Int32) (zd_wantBits_l38 : Nat → Int32) (zd_wanted_l38 : Nat → Nat → Int32) (H : Heap) (locs : List Loc) (ls : Array Slot), f_X4_readWants_l38 z_length zd_size z_letters z_value_11 k (fun z_place_e80 z_tokenPlace_e80 z_token_e80 z_value_e80 zd_wantCount_e80 zd_wantBits_e80 zd_wanted_e80 => f_X4_readWants_e80 k z_place_e80 z_tokenPlace_e80 z_token_e80 z_value_e80 zd_wantCount_e80 zd_wantBits_e80 zd_wanted_e80) N n y2_l38 z_place_l38 z_tokenPlace_l38 z_token_l38 z_value_l38 zd_wantCount_l38 zd_wantBits_l38 zd_wanted_l38 = some res → PD (dC, dI) A (w_X4_readWants cI cZ cQ cW z_o zd_o z_letters_a zd_weight_a zd_nights_a zd_wanted_a zd_wantCount_a zd_wantBits_a zd_wanted_r z_length z_place_l38 z_tokenPlace_l38 z_token_l38 z_value_l38 z_lawTold zd_size zd_law z_letters zd_wantCount_l38 zd_wantBits_l38 zd_wanted_l38) H → va_S A s.heap H locs → lv_has ls 3 [(0, .ref z_o), (1, .int z_value_11), (2, .int y2_l38)] → W p l e rm_X4_readWants s m args below meth c H locs 0 0 Q (F0 m 38 ls []) := by
      intro n
      induction n with
      | zero => intro y2_l38 z_place_l38 z_tokenPlace_l38 z_token_l38 z_value_l38 zd_wantCount_l38 zd_wantBits_l38 zd_wanted_l38 H locs ls h; exact no_n h
      | succ n38 ih38 =>
        intro y2_l38 z_place_l38 z_tokenPlace_l38 z_token_l38 z_value_l38 zd_wantCount_l38 zd_wantBits_l38 zd_wanted_l38 H locs ls h hW hS hl
        rw [f_X4_readWants_l38] at h
        refine lv_iload_n (pc := 38) hx hb (tb_at tk_X4_readWants 22 rfl) rfl (lv_at hl 2 rfl) ?_
        refine lv_iconst (pc := 39) (v := 4) hx hb (tb_at tk_X4_readWants 23 rfl) (by decide) ?_
        refine lv_icmp_ge (pc := 40) (tgt := 80) hx hb (tb_at tk_X4_readWants 24 rfl) (by decide) (fun cc => ?_) (fun cc => ?_)
        · have h := it_t cc h
          exact w80 z_place_l38 z_tokenPlace_l38 z_token_l38 z_value_l38 zd_wantCount_l38 zd_wantBits_l38 zd_wanted_l38 _ _ _ h hW hS (lv_sub hl [0] rfl)
        · have h := it_f cc h
          refine lv_aload_n (pc := 43) hx hb (tb_at tk_X4_readWants 25 rfl) rfl (lv_at hl 0 rfl) ?_
          refine k_get (pc := 44) (v := .int z_token_l38) (T := TX4) B inG4 hW 0 rfl rfl 5 (by decide) q_f_X4_39 rfl rfl (tb_at tk_X4_readWants 26 rfl) ?_
          refine lv_sipush (pc := 47) (v := 257) hx hb (tb_at tk_X4_readWants 27 rfl) (by decide) ?_
          refine lv_icmp_ne (pc := 50) (tgt := 80) hx hb (tb_at tk_X4_readWants 28 rfl) (by decide) (fun cc => ?_) (fun cc => ?_)
          · have h := it_f cc h
            exact w80 z_place_l38 z_tokenPlace_l38 z_token_l38 z_value_l38 zd_wantCount_l38 zd_wantBits_l38 zd_wanted_l38 _ _ _ h hW hS (lv_sub hl [0] rfl)
          · have h := it_t cc h
            refine lv_aload_n (pc := 53) hx hb (tb_at tk_X4_readWants 29 rfl) rfl (lv_at hl 0 rfl) ?_
            refine k_get (pc := 54) (v := .ref zd_o) (T := TX4) B inG4 hW 0 rfl rfl 0 (by decide) q_f_X4_12 rfl rfl (tb_at tk_X4_readWants 30 rfl) ?_
            refine lv_iload_n (pc := 57) hx hb (tb_at tk_X4_readWants 31 rfl) rfl (lv_at hl 1 rfl) ?_
            refine lv_aload_n (pc := 58) hx hb (tb_at tk_X4_readWants 32 rfl) rfl (lv_at hl 0 rfl) ?_
            refine k_get (pc := 59) (v := .int z_value_l38) (T := TX4) B inG4 hW 0 rfl rfl 6 (by decide) q_f_X4_62 rfl rfl (tb_at tk_X4_readWants 33 rfl) ?_
            refine k_calli (pc := 62) B (k_runVi (rest := []) (C := RX2) B (c_X2_addWant l dC dI cI cZ cQ cW zd_o zd_weight_a zd_nights_a zd_wanted_a zd_wantCount_a zd_wantBits_a zd_wanted_r zd_size zd_law zd_wantBits_l38 zd_wantCount_l38 zd_wanted_l38 z_value_11 z_value_l38 N _ res h) E0_st (fun _ _ _ => trivial) q_c_X2_addWant q_m_X4_75 q_i_X2_addWant q_s_X2_addWant q_n_X2 hd_X2_addWant ⟨rfl, rfl⟩ ⟨Nat.le_of_ble_eq_true rfl, Nat.le_of_ble_eq_true rfl⟩ hW [1, 4, 3, 5, 6, 7, 8, 9, 10, 11] rfl (by decide +kernel) (q0 := 0) (ci := 2) rfl rfl rfl hl.1 rfl (Nat.le_of_ble_eq_true rfl) (tb_at tk_X4_readWants 34 rfl) ⟨Nat.zero_le _, Nat.zero_le _⟩) hW hS [1, 4, 3, 5, 6, 7, 8, 9, 10, 11] rfl [zd_o, zd_wantBits_a, zd_wantCount_a, zd_wanted_a, zd_wanted_r 0, zd_wanted_r 1, zd_wanted_r 2, zd_wanted_r 3, zd_wanted_r 4, zd_wanted_r 5] rfl (fun _ => rfl) [none, some 0, none, some 2, some 1, some 3, some 4, some 5, some 6, some 7, some 8, some 9] (by decide +kernel) (fun u => (w_X4_readWants cI cZ cQ cW z_o zd_o z_letters_a zd_weight_a zd_nights_a zd_wanted_a zd_wantCount_a zd_wantBits_a zd_wanted_r z_length z_place_l38 z_tokenPlace_l38 z_token_l38 z_value_l38 z_lawTold zd_size zd_law z_letters u.2.1 u.1 u.2.2)) (fun _ => rfl) (fun r62 u H locs h hW hS => ?_)
            obtain ⟨zd_wantBits_62, zd_wantCount_62, zd_wanted_62⟩ := u
            dsimp only at h
            have hW : PD (dC, dI) A (w_X4_readWants cI cZ cQ cW z_o zd_o z_letters_a zd_weight_a zd_nights_a zd_wanted_a zd_wantCount_a zd_wantBits_a zd_wanted_r z_length z_place_l38 z_tokenPlace_l38 z_token_l38 z_value_l38 z_lawTold zd_size zd_law z_letters zd_wantCount_62 zd_wantBits_62 zd_wanted_62) H := hW
            refine lv_if_ne (pc := 65) (tgt := 70) hx hb (tb_at tk_X4_readWants 35 rfl) (by decide) (fun cc => ?_) (fun cc => ?_)
            · have h := it_f cc h
              refine lv_aload_n (pc := 70) hx hb (tb_at tk_X4_readWants 38 rfl) rfl (lv_at hl 0 rfl) ?_
              refine k_callv (pc := 71) B (k_runVv (rest := []) (C := RX4) B (c_X4_step l dC dI cI cZ cQ cW z_o zd_o z_letters_a z_length z_place_l38 z_tokenPlace_l38 z_token_l38 z_value_l38 z_lawTold z_letters  N _ res h) E0_st (fun _ _ _ => trivial) q_c_X4_step q_m_X4_36 q_i_X4_step q_s_X4_step q_n_X4 hd_X4_step ⟨rfl, rfl⟩ ⟨Nat.le_of_ble_eq_true rfl, Nat.le_of_ble_eq_true rfl⟩ hW [0, 2] rfl (by decide +kernel) (q0 := 0) (ci := 4) rfl rfl rfl hl.1 rfl (Nat.le_of_ble_eq_true rfl) (tb_at tk_X4_readWants 39 rfl) ⟨Nat.zero_le _, Nat.zero_le _⟩) hW hS [0, 2] rfl [z_o, z_letters_a] rfl (fun _ => rfl) [some 0, none, some 1, none, none, none, none, none, none, none, none, none] (by decide +kernel) (fun u => (w_X4_readWants cI cZ cQ cW z_o zd_o z_letters_a zd_weight_a zd_nights_a zd_wanted_a zd_wantCount_a zd_wantBits_a zd_wanted_r z_length u.1 u.2.1 u.2.2.1 u.2.2.2 z_lawTold zd_size zd_law z_letters zd_wantCount_62 zd_wantBits_62 zd_wanted_62)) (fun _ => rfl) (fun u H locs h hW hS => ?_)
              obtain ⟨z_place_71, z_tokenPlace_71, z_token_71, z_value_71⟩ := u
              dsimp only at h
              have hW : PD (dC, dI) A (w_X4_readWants cI cZ cQ cW z_o zd_o z_letters_a zd_weight_a zd_nights_a zd_wanted_a zd_wantCount_a zd_wantBits_a zd_wanted_r z_length z_place_71 z_tokenPlace_71 z_token_71 z_value_71 z_lawTold zd_size zd_law z_letters zd_wantCount_62 zd_wantBits_62 zd_wanted_62) H := hW
              refine lv_iinc (pc := 74) (v := y2_l38 + 1) (lv' := [(2, .int (y2_l38 + 1)), (0, .ref z_o), (1, .int z_value_11)]) hx hb (tb_at tk_X4_readWants 40 rfl) hl (k := 2) rfl rfl (by decide) rfl (fun ls hl => ?_)
              refine lv_goto (pc := 77) (tgt := 38) hx hb (tb_at tk_X4_readWants 41 rfl) (by decide) ?_
              exact ih38 (y2_l38 + 1) z_place_71 z_tokenPlace_71 z_token_71 z_value_71 zd_wantCount_62 zd_wantBits_62 zd_wanted_62 _ _ _ h hW hS (lv_sub hl [1, 2, 0] rfl)
            · have h := it_t cc h
              refine lv_iconst (pc := 68) (v := 0) hx hb (tb_at tk_X4_readWants 36 rfl) (by decide) ?_
              exact hQ 0 (z_place_l38, z_tokenPlace_l38, z_token_l38, z_value_l38, zd_wantCount_62, zd_wantBits_62, zd_wanted_62) _ _ _ 69 nz0 h hW hS (tb_at tk_X4_readWants 37 rfl)
    exact w38 N 0 z_place_33 z_tokenPlace_33 z_token_33 z_value_33 zd_wantCount_29 zd_wantBits_29 zd_wanted _ _ _ h hW hS (lv_sub hl [2, 1, 0] rfl)
  · have h := it_t cc h
    refine lv_iconst (pc := 17) (v := 0) hx hb (tb_at tk_X4_readWants 9 rfl) (by decide) ?_
    exact hQ 0 (z_place_11, z_tokenPlace_11, z_token_11, z_value_11, zd_wantCount, zd_wantBits, zd_wanted) _ _ _ 18 nz0 h hW hS (tb_at tk_X4_readWants 10 rfl)
def f_X4_readLaw {ρ : Type} (N : Nat) (z_length : Int32) (z_place : Int32) (z_tokenPlace : Int32) (z_token : Int32) (z_value : Int32) (z_lawTold : Int32) (z_letters : Nat → Int32) (zd_law : Int32) (k : Int32 → Int32 → Int32 → Int32 → Int32 → Int32 → Int32 → Option ρ) : Option ρ := if z_lawTold = 0 then (f_X4_stepToNumber N z_length z_place z_value z_letters 0 2 (fun r10 z_place_10 z_tokenPlace_10 z_token_10 z_value_10 => if r10 = 0 then (k 0 z_place_10 z_tokenPlace_10 z_token_10 z_value_10 z_lawTold zd_law) else (f_X4_stepToEnd N z_length z_place_10 z_value_10 z_letters (fun r35 z_place_35 z_tokenPlace_35 z_token_35 z_value_35 => ck (isZ r35) (k r35 z_place_35 z_tokenPlace_35 z_token_35 z_value_35 1 z_value_10))))) else (k 0 z_place z_tokenPlace z_token z_value z_lawTold zd_law)
abbrev w_X4_readLaw (cI cZ cQ cW : ClassId) (z_o : Nat) (zd_o : Nat) (z_letters_a : Nat) (zd_weight_a : Nat) (zd_nights_a : Nat) (zd_wanted_a : Nat) (zd_wantCount_a : Nat) (zd_wantBits_a : Nat) (z_length : Int32) (z_place : Int32) (z_tokenPlace : Int32) (z_token : Int32) (z_value : Int32) (z_lawTold : Int32) (z_letters : Nat → Int32) (zd_size : Int32) (zd_law : Int32) : va_W := [(z_o, .inr (4, [.ref zd_o, .ref z_letters_a, .int z_length, .int z_place, .int z_tokenPlace, .int z_token, .int z_value, .int z_lawTold])), (z_letters_a, .inl (cI, 150, .inl z_letters)), (zd_o, .inr (2, [.ref zd_weight_a, .ref zd_nights_a, .ref zd_wanted_a, .ref zd_wantCount_a, .ref zd_wantBits_a, .int zd_size, .int zd_law]))]
abbrev rm_X4_readLaw : Room := { frames := 4, cells := 0, slots := 0, locals := 83 }
set_option maxHeartbeats 4000000 in
set_option maxRecDepth 100000 in
theorem c_X4_readLaw (l : Launch) (dC : Nat → ClassId) (dI : Nat → Nat → Nat) (cI cZ cQ cW : ClassId) (z_o : Nat) (zd_o : Nat) (z_letters_a : Nat) (zd_weight_a : Nat) (zd_nights_a : Nat) (zd_wanted_a : Nat) (zd_wantCount_a : Nat) (zd_wantBits_a : Nat) (z_length : Int32) (z_place : Int32) (z_tokenPlace : Int32) (z_token : Int32) (z_value : Int32) (z_lawTold : Int32) (z_letters : Nat → Int32) (zd_size : Int32) (zd_law : Int32) {ρ : Type} (N : Nat) (k : Int32 → Int32 → Int32 → Int32 → Int32 → Int32 → Int32 → Option ρ) (res : ρ) (h : f_X4_readLaw N z_length z_place z_tokenPlace z_token z_value z_lawTold z_letters zd_law k = some res) : Ci l yX4_readLaw (WS yX4_readLaw cX4_readLaw 1 (some .boolean)) rm_X4_readLaw (dC, dI) (tysG cI cZ cQ cW) E0 [.ref z_o] (w_X4_readLaw cI cZ cQ cW z_o zd_o z_letters_a zd_weight_a zd_nights_a zd_wanted_a zd_wantCount_a zd_wantBits_a z_length z_place z_tokenPlace z_token z_value z_lawTold z_letters zd_size zd_law) (fun (u : Int32 × Int32 × Int32 × Int32 × Int32 × Int32) => (w_X4_readLaw cI cZ cQ cW z_o zd_o z_letters_a zd_weight_a zd_nights_a zd_wanted_a zd_wantCount_a zd_wantBits_a z_length u.1 u.2.1 u.2.2.1 u.2.2.2.1 u.2.2.2.2.1 z_letters zd_size u.2.2.2.2.2)) (fun r u => k r u.1 u.2.1 u.2.2.1 u.2.2.2.1 u.2.2.2.2.1 u.2.2.2.2.2 = some res) := by
  refine Ci.of (cc := cX4_readLaw) (n := 1) (by decide +kernel) (Nat.le_of_ble_eq_true rfl) ?_
  intro p e s m args below meth c A ls Q B hW hE hS hl hQ
  have hx := B.1
  have hb := B.2.1
  have hl : lv_has ls 1 [(0, .ref z_o)] := hl
  unfold f_X4_readLaw at h
  refine lv_aload_n (pc := 0) hx hb (tb_at tk_X4_readLaw 0 rfl) rfl (lv_at hl 0 rfl) ?_
  refine k_get (pc := 1) (v := .int z_lawTold) (T := TX4) B inG4 hW 0 rfl rfl 7 (by decide) q_f_X4_32 rfl rfl (tb_at tk_X4_readLaw 1 rfl) ?_
  refine lv_if_ne (pc := 4) (tgt := 16) hx hb (tb_at tk_X4_readLaw 2 rfl) (by decide) (fun cc => ?_) (fun cc => ?_)
  · have h := it_f cc h
    refine lv_iconst (pc := 16) (v := 0) hx hb (tb_at tk_X4_readLaw 8 rfl) (by decide) ?_
    exact hQ 0 (z_place, z_tokenPlace, z_token, z_value, z_lawTold, zd_law) _ _ _ 17 nz0 h hW hS (tb_at tk_X4_readLaw 9 rfl)
  · have h := it_t cc h
    refine lv_aload_n (pc := 7) hx hb (tb_at tk_X4_readLaw 3 rfl) rfl (lv_at hl 0 rfl) ?_
    refine lv_iconst (pc := 8) (v := 0) hx hb (tb_at tk_X4_readLaw 4 rfl) (by decide) ?_
    refine lv_iconst (pc := 9) (v := 2) hx hb (tb_at tk_X4_readLaw 5 rfl) (by decide) ?_
    refine k_calli (pc := 10) B (k_runVi (rest := []) (C := RX4) B (c_X4_stepToNumber l dC dI cI cZ cQ cW z_o zd_o z_letters_a z_length z_place z_tokenPlace z_token z_value z_lawTold z_letters 0 2 N _ res h) E0_st (fun _ _ _ => trivial) q_c_X4_stepToNumber q_m_X4_58 q_i_X4_stepToNumber q_s_X4_stepToNumber q_n_X4 hd_X4_stepToNumber ⟨rfl, rfl⟩ ⟨Nat.le_of_ble_eq_true rfl, Nat.le_of_ble_eq_true rfl⟩ hW [0, 1] rfl (by decide +kernel) (q0 := 0) (ci := 4) rfl rfl rfl hl.1 rfl (Nat.le_of_ble_eq_true rfl) (tb_at tk_X4_readLaw 6 rfl) ⟨Nat.zero_le _, Nat.zero_le _⟩) hW hS [0, 1] rfl [z_o, z_letters_a] rfl (fun _ => rfl) [some 0, some 1, none] (by decide +kernel) (fun u => (w_X4_readLaw cI cZ cQ cW z_o zd_o z_letters_a zd_weight_a zd_nights_a zd_wanted_a zd_wantCount_a zd_wantBits_a z_length u.1 u.2.1 u.2.2.1 u.2.2.2 z_lawTold z_letters zd_size zd_law)) (fun _ => rfl) (fun r10 u H locs h hW hS => ?_)
    obtain ⟨z_place_10, z_tokenPlace_10, z_token_10, z_value_10⟩ := u
    dsimp only at h
    have hW : PD (dC, dI) A (w_X4_readLaw cI cZ cQ cW z_o zd_o z_letters_a zd_weight_a zd_nights_a zd_wanted_a zd_wantCount_a zd_wantBits_a z_length z_place_10 z_tokenPlace_10 z_token_10 z_value_10 z_lawTold z_letters zd_size zd_law) H := hW
    refine lv_if_ne (pc := 13) (tgt := 18) hx hb (tb_at tk_X4_readLaw 7 rfl) (by decide) (fun cc => ?_) (fun cc => ?_)
    · have h := it_f cc h
      refine lv_aload_n (pc := 18) hx hb (tb_at tk_X4_readLaw 10 rfl) rfl (lv_at hl 0 rfl) ?_
      refine lv_iconst (pc := 19) (v := 1) hx hb (tb_at tk_X4_readLaw 11 rfl) (by decide) ?_
      refine k_put (pc := 20) (T := TX4) B inG4 tyX4 tyX4_ok nmX4 hW hS 0 rfl rfl 7 (by decide) q_f_X4_32 rfl rfl nz1 fz1 (Nat.le_of_ble_eq_true rfl) (tb_at tk_X4_readLaw 12 rfl) (w_X4_readLaw cI cZ cQ cW z_o zd_o z_letters_a zd_weight_a zd_nights_a zd_wanted_a zd_wantCount_a zd_wantBits_a z_length z_place_10 z_tokenPlace_10 z_token_10 z_value_10 1 z_letters zd_size zd_law) rfl (fun H locs hW hS => ?_)
      refine lv_aload_n (pc := 23) hx hb (tb_at tk_X4_readLaw 13 rfl) rfl (lv_at hl 0 rfl) ?_
      refine k_get (pc := 24) (v := .ref zd_o) (T := TX4) B inG4 hW 0 rfl rfl 0 (by decide) q_f_X4_12 rfl rfl (tb_at tk_X4_readLaw 14 rfl) ?_
      refine lv_aload_n (pc := 27) hx hb (tb_at tk_X4_readLaw 15 rfl) rfl (lv_at hl 0 rfl) ?_
      refine k_get (pc := 28) (v := .int z_value_10) (T := TX4) B inG4 hW 0 rfl rfl 6 (by decide) q_f_X4_62 rfl rfl (tb_at tk_X4_readLaw 16 rfl) ?_
      refine k_put (pc := 31) (T := TX2) B inG2 tyX2 tyX2_ok nmX2 hW hS 2 rfl rfl 6 (by decide) q_f_X4_78 rfl rfl rfl rfl (Nat.le_of_ble_eq_true rfl) (tb_at tk_X4_readLaw 17 rfl) (w_X4_readLaw cI cZ cQ cW z_o zd_o z_letters_a zd_weight_a zd_nights_a zd_wanted_a zd_wantCount_a zd_wantBits_a z_length z_place_10 z_tokenPlace_10 z_token_10 z_value_10 1 z_letters zd_size z_value_10) rfl (fun H locs hW hS => ?_)
      refine lv_aload_n (pc := 34) hx hb (tb_at tk_X4_readLaw 18 rfl) rfl (lv_at hl 0 rfl) ?_
      refine k_calli (pc := 35) B (k_runVi (rest := []) (C := RX4) B (c_X4_stepToEnd l dC dI cI cZ cQ cW z_o zd_o z_letters_a z_length z_place_10 z_tokenPlace_10 z_token_10 z_value_10 1 z_letters  N _ res h) E0_st (fun _ _ _ => trivial) q_c_X4_stepToEnd q_m_X4_65 q_i_X4_stepToEnd q_s_X4_stepToEnd q_n_X4 hd_X4_stepToEnd ⟨rfl, rfl⟩ ⟨Nat.le_of_ble_eq_true rfl, Nat.le_of_ble_eq_true rfl⟩ hW [0, 1] rfl (by decide +kernel) (q0 := 0) (ci := 4) rfl rfl rfl hl.1 rfl (Nat.le_of_ble_eq_true rfl) (tb_at tk_X4_readLaw 19 rfl) ⟨Nat.zero_le _, Nat.zero_le _⟩) hW hS [0, 1] rfl [z_o, z_letters_a] rfl (fun _ => rfl) [some 0, some 1, none] (by decide +kernel) (fun u => (w_X4_readLaw cI cZ cQ cW z_o zd_o z_letters_a zd_weight_a zd_nights_a zd_wanted_a zd_wantCount_a zd_wantBits_a z_length u.1 u.2.1 u.2.2.1 u.2.2.2 1 z_letters zd_size z_value_10)) (fun _ => rfl) (fun r35 u H locs h hW hS => ?_)
      obtain ⟨z_place_35, z_tokenPlace_35, z_token_35, z_value_35⟩ := u
      dsimp only at h
      have hW : PD (dC, dI) A (w_X4_readLaw cI cZ cQ cW z_o zd_o z_letters_a zd_weight_a zd_nights_a zd_wanted_a zd_wantCount_a zd_wantBits_a z_length z_place_35 z_tokenPlace_35 z_token_35 z_value_35 1 z_letters zd_size z_value_10) H := hW
      have zz := ck_l h
      have h := ck_r h
      exact hQ r35 (z_place_35, z_tokenPlace_35, z_token_35, z_value_35, 1, z_value_10) _ _ _ 38 (isZ_n zz) h hW hS (tb_at tk_X4_readLaw 20 rfl)
    · have h := it_t cc h
      refine lv_iconst (pc := 16) (v := 0) hx hb (tb_at tk_X4_readLaw 8 rfl) (by decide) ?_
      exact hQ 0 (z_place_10, z_tokenPlace_10, z_token_10, z_value_10, z_lawTold, zd_law) _ _ _ 17 nz0 h hW hS (tb_at tk_X4_readLaw 9 rfl)
def f_X4_read_e100 {ρ : Type} (k : Int32 → Int32 → Int32 → Int32 → Int32 → Int32 → Int32 → Int32 → (Nat → Int32) → (Nat → Int32) → (Nat → Int32) → (Nat → Int32) → (Nat → Nat → Int32) → Option ρ) (z_place_e100 : Int32) (z_tokenPlace_e100 : Int32) (z_token_e100 : Int32) (z_value_e100 : Int32) (z_lawTold_e100 : Int32) (zd_size_e100 : Int32) (zd_law_e100 : Int32) (zd_weight_e100 : Nat → Int32) (zd_nights_e100 : Nat → Int32) (zd_wantCount_e100 : Nat → Int32) (zd_wantBits_e100 : Nat → Int32) (zd_wanted_e100 : Nat → Nat → Int32) : Option ρ := k ((-10 : Int32) - z_tokenPlace_e100) z_place_e100 z_tokenPlace_e100 z_token_e100 z_value_e100 z_lawTold_e100 zd_size_e100 zd_law_e100 zd_weight_e100 zd_nights_e100 zd_wantCount_e100 zd_wantBits_e100 zd_wanted_e100
def f_X4_read_e121 {ρ : Type} (k : Int32 → Int32 → Int32 → Int32 → Int32 → Int32 → Int32 → Int32 → (Nat → Int32) → (Nat → Int32) → (Nat → Int32) → (Nat → Int32) → (Nat → Nat → Int32) → Option ρ) (y1_e121 : Int32) (z_place_e121 : Int32) (z_tokenPlace_e121 : Int32) (z_token_e121 : Int32) (z_value_e121 : Int32) (z_lawTold_e121 : Int32) (zd_size_e121 : Int32) (zd_law_e121 : Int32) (zd_weight_e121 : Nat → Int32) (zd_nights_e121 : Nat → Int32) (zd_wantCount_e121 : Nat → Int32) (zd_wantBits_e121 : Nat → Int32) (zd_wanted_e121 : Nat → Nat → Int32) : Option ρ := k y1_e121 z_place_e121 z_tokenPlace_e121 z_token_e121 z_value_e121 z_lawTold_e121 zd_size_e121 zd_law_e121 zd_weight_e121 zd_nights_e121 zd_wantCount_e121 zd_wantBits_e121 zd_wanted_e121
def f_X4_read_j95 {ρ : Type} (z_length : Int32) (z_letters : Nat → Int32) (y1_l25 : Int32) (y2_l25 : Int32) (k100 : Int32 → Int32 → Int32 → Int32 → Int32 → Int32 → Int32 → (Nat → Int32) → (Nat → Int32) → (Nat → Int32) → (Nat → Int32) → (Nat → Nat → Int32) → Option ρ) (kb25 : Int32 → Int32 → Int32 → Int32 → Int32 → Int32 → Int32 → Int32 → Int32 → (Nat → Int32) → (Nat → Int32) → (Nat → Int32) → (Nat → Int32) → (Nat → Nat → Int32) → Option ρ) (N : Nat) (z_place_j95 : Int32) (z_tokenPlace_j95 : Int32) (z_token_j95 : Int32) (z_value_j95 : Int32) (z_lawTold_j95 : Int32) (zd_size_j95 : Int32) (zd_law_j95 : Int32) (zd_weight_j95 : Nat → Int32) (zd_nights_j95 : Nat → Int32) (zd_wantCount_j95 : Nat → Int32) (zd_wantBits_j95 : Nat → Int32) (zd_wanted_j95 : Nat → Nat → Int32) (s0_j95 : Int32) : Option ρ := if s0_j95 = 0 then (k100 z_place_j95 z_tokenPlace_j95 z_token_j95 z_value_j95 z_lawTold_j95 zd_size_j95 zd_law_j95 zd_weight_j95 zd_nights_j95 zd_wantCount_j95 zd_wantBits_j95 zd_wanted_j95) else (f_X4_step N z_length z_place_j95 z_value_j95 z_letters (fun z_place_112 z_tokenPlace_112 z_token_112 z_value_112 => kb25 (y1_l25 + 1) (y2_l25 + 1) z_place_112 z_tokenPlace_112 z_token_112 z_value_112 z_lawTold_j95 zd_size_j95 zd_law_j95 zd_weight_j95 zd_nights_j95 zd_wantCount_j95 zd_wantBits_j95 zd_wanted_j95))
def f_X4_read_j94 {ρ : Type} (z_length : Int32) (z_letters : Nat → Int32) (y1_l25 : Int32) (y2_l25 : Int32) (zd_size_l25 : Int32) (zd_weight_l25 : Nat → Int32) (zd_nights_l25 : Nat → Int32) (zd_wantCount_l25 : Nat → Int32) (zd_wantBits_l25 : Nat → Int32) (zd_wanted_l25 : Nat → Nat → Int32) (k100 : Int32 → Int32 → Int32 → Int32 → Int32 → Int32 → Int32 → (Nat → Int32) → (Nat → Int32) → (Nat → Int32) → (Nat → Int32) → (Nat → Nat → Int32) → Option ρ) (kb25 : Int32 → Int32 → Int32 → Int32 → Int32 → Int32 → Int32 → Int32 → Int32 → (Nat → Int32) → (Nat → Int32) → (Nat → Int32) → (Nat → Int32) → (Nat → Nat → Int32) → Option ρ) (N : Nat) (z_place_j94 : Int32) (z_tokenPlace_j94 : Int32) (z_token_j94 : Int32) (z_value_j94 : Int32) (z_lawTold_j94 : Int32) (zd_law_j94 : Int32) : Option ρ := f_X4_read_j95 z_length z_letters y1_l25 y2_l25 k100 kb25 N z_place_j94 z_tokenPlace_j94 z_token_j94 z_value_j94 z_lawTold_j94 zd_size_l25 zd_law_j94 zd_weight_l25 zd_nights_l25 zd_wantCount_l25 zd_wantBits_l25 zd_wanted_l25 0
def f_X4_read_l25 {ρ : Type} (z_length : Int32) (z_letters : Nat → Int32) (k100 : Int32 → Int32 → Int32 → Int32 → Int32 → Int32 → Int32 → (Nat → Int32) → (Nat → Int32) → (Nat → Int32) → (Nat → Int32) → (Nat → Nat → Int32) → Option ρ) (k121 : Int32 → Int32 → Int32 → Int32 → Int32 → Int32 → Int32 → Int32 → (Nat → Int32) → (Nat → Int32) → (Nat → Int32) → (Nat → Int32) → (Nat → Nat → Int32) → Option ρ) (N : Nat) : Nat → Int32 → Int32 → Int32 → Int32 → Int32 → Int32 → Int32 → Int32 → Int32 → (Nat → Int32) → (Nat → Int32) → (Nat → Int32) → (Nat → Int32) → (Nat → Nat → Int32) → Option ρ
  | 0, _, _, _, _, _, _, _, _, _, _, _, _, _, _ => none
  | n25 + 1, y1_l25, y2_l25, z_place_l25, z_tokenPlace_l25, z_token_l25, z_value_l25, z_lawTold_l25, zd_size_l25, zd_law_l25, zd_weight_l25, zd_nights_l25, zd_wantCount_l25, zd_wantBits_l25, zd_wanted_l25 => if 150 ≤ y2_l25 then (k121 y1_l25 z_place_l25 z_tokenPlace_l25 z_token_l25 z_value_l25 z_lawTold_l25 zd_size_l25 zd_law_l25 zd_weight_l25 zd_nights_l25 zd_wantCount_l25 zd_wantBits_l25 zd_wanted_l25) else (if z_token_l25 = 256 then (k121 y1_l25 z_place_l25 z_tokenPlace_l25 z_token_l25 z_value_l25 z_lawTold_l25 zd_size_l25 zd_law_l25 zd_weight_l25 zd_nights_l25 zd_wantCount_l25 zd_wantBits_l25 zd_wanted_l25) else (if z_token_l25 = 112 then (f_X4_readPerson N z_length z_place_l25 z_tokenPlace_l25 z_token_l25 z_value_l25 zd_size_l25 z_letters zd_weight_l25 zd_nights_l25 zd_wantCount_l25 zd_wantBits_l25 (fun r52 z_place_52 z_tokenPlace_52 z_token_52 z_value_52 zd_size_52 zd_weight_52 zd_nights_52 zd_wantCount_52 zd_wantBits_52 => f_X4_read_j95 z_length z_letters y1_l25 y2_l25 k100 (f_X4_read_l25 z_length z_letters k100 k121 N n25) N z_place_52 z_tokenPlace_52 z_token_52 z_value_52 z_lawTold_l25 zd_size_52 zd_law_l25 zd_weight_52 zd_nights_52 zd_wantCount_52 zd_wantBits_52 zd_wanted_l25 r52)) else (if z_token_l25 = 119 then (f_X4_readWants N z_length z_place_l25 z_value_l25 zd_size_l25 z_letters zd_wantCount_l25 zd_wantBits_l25 zd_wanted_l25 (fun r68 z_place_68 z_tokenPlace_68 z_token_68 z_value_68 zd_wantCount_68 zd_wantBits_68 zd_wanted_68 => f_X4_read_j95 z_length z_letters y1_l25 y2_l25 k100 (f_X4_read_l25 z_length z_letters k100 k121 N n25) N z_place_68 z_tokenPlace_68 z_token_68 z_value_68 z_lawTold_l25 zd_size_l25 zd_law_l25 zd_weight_l25 zd_nights_l25 zd_wantCount_68 zd_wantBits_68 zd_wanted_68 r68)) else (if z_token_l25 = 108 then (f_X4_readLaw N z_length z_place_l25 z_tokenPlace_l25 z_token_l25 z_value_l25 z_lawTold_l25 z_letters zd_law_l25 (fun r84 z_place_84 z_tokenPlace_84 z_token_84 z_value_84 z_lawTold_84 zd_law_84 => if r84 = 0 then (f_X4_read_j94 z_length z_letters y1_l25 y2_l25 zd_size_l25 zd_weight_l25 zd_nights_l25 zd_wantCount_l25 zd_wantBits_l25 zd_wanted_l25 k100 (f_X4_read_l25 z_length z_letters k100 k121 N n25) N z_place_84 z_tokenPlace_84 z_token_84 z_value_84 z_lawTold_84 zd_law_84) else (f_X4_read_j95 z_length z_letters y1_l25 y2_l25 k100 (f_X4_read_l25 z_length z_letters k100 k121 N n25) N z_place_84 z_tokenPlace_84 z_token_84 z_value_84 z_lawTold_84 zd_size_l25 zd_law_84 zd_weight_l25 zd_nights_l25 zd_wantCount_l25 zd_wantBits_l25 zd_wanted_l25 1))) else (f_X4_read_j94 z_length z_letters y1_l25 y2_l25 zd_size_l25 zd_weight_l25 zd_nights_l25 zd_wantCount_l25 zd_wantBits_l25 zd_wanted_l25 k100 (f_X4_read_l25 z_length z_letters k100 k121 N n25) N z_place_l25 z_tokenPlace_l25 z_token_l25 z_value_l25 z_lawTold_l25 zd_law_l25)))))
def f_X4_read {ρ : Type} (N : Nat) (z_length : Int32) (z_value : Int32) (z_letters : Nat → Int32) (zd_weight : Nat → Int32) (zd_nights : Nat → Int32) (zd_wantCount : Nat → Int32) (zd_wantBits : Nat → Int32) (zd_wanted : Nat → Nat → Int32) (k : Int32 → Int32 → Int32 → Int32 → Int32 → Int32 → Int32 → Int32 → (Nat → Int32) → (Nat → Int32) → (Nat → Int32) → (Nat → Int32) → (Nat → Nat → Int32) → Option ρ) : Option ρ := f_X2_empty N  (fun zd_size_4 zd_law_4 => f_X4_step N z_length 0 z_value z_letters (fun z_place_20 z_tokenPlace_20 z_token_20 z_value_20 => f_X4_read_l25 z_length z_letters (fun z_place_e100 z_tokenPlace_e100 z_token_e100 z_value_e100 z_lawTold_e100 zd_size_e100 zd_law_e100 zd_weight_e100 zd_nights_e100 zd_wantCount_e100 zd_wantBits_e100 zd_wanted_e100 => f_X4_read_e100 k z_place_e100 z_tokenPlace_e100 z_token_e100 z_value_e100 z_lawTold_e100 zd_size_e100 zd_law_e100 zd_weight_e100 zd_nights_e100 zd_wantCount_e100 zd_wantBits_e100 zd_wanted_e100) (fun y1_e121 z_place_e121 z_tokenPlace_e121 z_token_e121 z_value_e121 z_lawTold_e121 zd_size_e121 zd_law_e121 zd_weight_e121 zd_nights_e121 zd_wantCount_e121 zd_wantBits_e121 zd_wanted_e121 => f_X4_read_e121 k y1_e121 z_place_e121 z_tokenPlace_e121 z_token_e121 z_value_e121 z_lawTold_e121 zd_size_e121 zd_law_e121 zd_weight_e121 zd_nights_e121 zd_wantCount_e121 zd_wantBits_e121 zd_wanted_e121) N N 0 0 z_place_20 z_tokenPlace_20 z_token_20 z_value_20 0 zd_size_4 zd_law_4 zd_weight zd_nights zd_wantCount zd_wantBits zd_wanted))
abbrev w_X4_read (cI cZ cQ cW : ClassId) (z_o : Nat) (zd_o : Nat) (z_letters_a : Nat) (zd_weight_a : Nat) (zd_nights_a : Nat) (zd_wanted_a : Nat) (zd_wantCount_a : Nat) (zd_wantBits_a : Nat) (zd_wanted_r : Nat → Nat) (z_length : Int32) (z_place : Int32) (z_tokenPlace : Int32) (z_token : Int32) (z_value : Int32) (z_lawTold : Int32) (zd_size : Int32) (zd_law : Int32) (z_letters : Nat → Int32) (zd_weight : Nat → Int32) (zd_nights : Nat → Int32) (zd_wantCount : Nat → Int32) (zd_wantBits : Nat → Int32) (zd_wanted : Nat → Nat → Int32) : va_W := [(z_o, .inr (4, [.ref zd_o, .ref z_letters_a, .int z_length, .int z_place, .int z_tokenPlace, .int z_token, .int z_value, .int z_lawTold])), (zd_o, .inr (2, [.ref zd_weight_a, .ref zd_nights_a, .ref zd_wanted_a, .ref zd_wantCount_a, .ref zd_wantBits_a, .int zd_size, .int zd_law])), (z_letters_a, .inl (cI, 150, .inl z_letters)), (zd_weight_a, .inl (cI, 6, .inl zd_weight)), (zd_nights_a, .inl (cI, 6, .inl zd_nights)), (zd_wantCount_a, .inl (cI, 6, .inl zd_wantCount)), (zd_wantBits_a, .inl (cI, 6, .inl zd_wantBits)), (zd_wanted_a, .inl (cW, 6, .inr (.inr (.inr (.inr (fun i => if i < 6 then some (zd_wanted_r i) else none)))))), (zd_wanted_r 0, .inl (cI, 4, .inl (zd_wanted 0))), (zd_wanted_r 1, .inl (cI, 4, .inl (zd_wanted 1))), (zd_wanted_r 2, .inl (cI, 4, .inl (zd_wanted 2))), (zd_wanted_r 3, .inl (cI, 4, .inl (zd_wanted 3))), (zd_wanted_r 4, .inl (cI, 4, .inl (zd_wanted 4))), (zd_wanted_r 5, .inl (cI, 4, .inl (zd_wanted 5)))]
abbrev rm_X4_read : Room := { frames := 5, cells := 0, slots := 0, locals := 105 }
set_option maxHeartbeats 4000000 in
set_option maxRecDepth 100000 in
theorem c_X4_read (l : Launch) (dC : Nat → ClassId) (dI : Nat → Nat → Nat) (cI cZ cQ cW : ClassId) (z_o : Nat) (zd_o : Nat) (z_letters_a : Nat) (zd_weight_a : Nat) (zd_nights_a : Nat) (zd_wanted_a : Nat) (zd_wantCount_a : Nat) (zd_wantBits_a : Nat) (zd_wanted_r : Nat → Nat) (z_length : Int32) (z_place : Int32) (z_tokenPlace : Int32) (z_token : Int32) (z_value : Int32) (z_lawTold : Int32) (zd_size : Int32) (zd_law : Int32) (z_letters : Nat → Int32) (zd_weight : Nat → Int32) (zd_nights : Nat → Int32) (zd_wantCount : Nat → Int32) (zd_wantBits : Nat → Int32) (zd_wanted : Nat → Nat → Int32) {ρ : Type} (N : Nat) (k : Int32 → Int32 → Int32 → Int32 → Int32 → Int32 → Int32 → Int32 → (Nat → Int32) → (Nat → Int32) → (Nat → Int32) → (Nat → Int32) → (Nat → Nat → Int32) → Option ρ) (res : ρ) (h : f_X4_read N z_length z_value z_letters zd_weight zd_nights zd_wantCount zd_wantBits zd_wanted k = some res) : Ci l yX4_read (WS yX4_read cX4_read 4 (some .int)) rm_X4_read (dC, dI) (tysG cI cZ cQ cW) E0 [.ref z_o] (w_X4_read cI cZ cQ cW z_o zd_o z_letters_a zd_weight_a zd_nights_a zd_wanted_a zd_wantCount_a zd_wantBits_a zd_wanted_r z_length z_place z_tokenPlace z_token z_value z_lawTold zd_size zd_law z_letters zd_weight zd_nights zd_wantCount zd_wantBits zd_wanted) (fun (u : Int32 × Int32 × Int32 × Int32 × Int32 × Int32 × Int32 × (Nat → Int32) × (Nat → Int32) × (Nat → Int32) × (Nat → Int32) × (Nat → Nat → Int32)) => (w_X4_read cI cZ cQ cW z_o zd_o z_letters_a zd_weight_a zd_nights_a zd_wanted_a zd_wantCount_a zd_wantBits_a zd_wanted_r z_length u.1 u.2.1 u.2.2.1 u.2.2.2.1 u.2.2.2.2.1 u.2.2.2.2.2.1 u.2.2.2.2.2.2.1 z_letters u.2.2.2.2.2.2.2.1 u.2.2.2.2.2.2.2.2.1 u.2.2.2.2.2.2.2.2.2.1 u.2.2.2.2.2.2.2.2.2.2.1 u.2.2.2.2.2.2.2.2.2.2.2)) (fun r u => k r u.1 u.2.1 u.2.2.1 u.2.2.2.1 u.2.2.2.2.1 u.2.2.2.2.2.1 u.2.2.2.2.2.2.1 u.2.2.2.2.2.2.2.1 u.2.2.2.2.2.2.2.2.1 u.2.2.2.2.2.2.2.2.2.1 u.2.2.2.2.2.2.2.2.2.2.1 u.2.2.2.2.2.2.2.2.2.2.2 = some res) := by
  refine Ci.of (cc := cX4_read) (n := 4) (by decide +kernel) (Nat.le_of_ble_eq_true rfl) ?_
  intro p e s m args below meth c A ls Q B hW hE hS hl hQ
  have hx := B.1
  have hb := B.2.1
  have hl : lv_has ls 4 [(0, .ref z_o)] := hl
  unfold f_X4_read at h
  refine lv_aload_n (pc := 0) hx hb (tb_at tk_X4_read 0 rfl) rfl (lv_at hl 0 rfl) ?_
  refine k_get (pc := 1) (v := .ref zd_o) (T := TX4) B inG4 hW 0 rfl rfl 0 (by decide) q_f_X4_12 rfl rfl (tb_at tk_X4_read 1 rfl) ?_
  refine k_callv (pc := 4) B (k_runVv (rest := []) (C := RX2) B (c_X2_empty l dC dI cI cZ cQ cW zd_o zd_weight_a zd_nights_a zd_wanted_a zd_wantCount_a zd_wantBits_a zd_size zd_law  N _ res h) E0_st (fun _ _ _ => trivial) q_c_X2_empty q_m_X4_26 q_i_X2_empty q_s_X2_empty q_n_X2 hd_X2_empty ⟨rfl, rfl⟩ ⟨Nat.le_of_ble_eq_true rfl, Nat.le_of_ble_eq_true rfl⟩ hW [1] rfl (by decide +kernel) (q0 := 0) (ci := 2) rfl rfl rfl hl.1 rfl (Nat.le_of_ble_eq_true rfl) (tb_at tk_X4_read 2 rfl) ⟨Nat.zero_le _, Nat.zero_le _⟩) hW hS [1] rfl [zd_o] rfl (fun _ => rfl) [none, some 0, none, none, none, none, none, none, none, none, none, none, none, none] (by decide +kernel) (fun u => (w_X4_read cI cZ cQ cW z_o zd_o z_letters_a zd_weight_a zd_nights_a zd_wanted_a zd_wantCount_a zd_wantBits_a zd_wanted_r z_length z_place z_tokenPlace z_token z_value z_lawTold u.1 u.2 z_letters zd_weight zd_nights zd_wantCount zd_wantBits zd_wanted)) (fun _ => rfl) (fun u H locs h hW hS => ?_)
  obtain ⟨zd_size_4, zd_law_4⟩ := u
  dsimp only at h
  have hW : PD (dC, dI) A (w_X4_read cI cZ cQ cW z_o zd_o z_letters_a zd_weight_a zd_nights_a zd_wanted_a zd_wantCount_a zd_wantBits_a zd_wanted_r z_length z_place z_tokenPlace z_token z_value z_lawTold zd_size_4 zd_law_4 z_letters zd_weight zd_nights zd_wantCount zd_wantBits zd_wanted) H := hW
  refine lv_aload_n (pc := 7) hx hb (tb_at tk_X4_read 3 rfl) rfl (lv_at hl 0 rfl) ?_
  refine lv_iconst (pc := 8) (v := 0) hx hb (tb_at tk_X4_read 4 rfl) (by decide) ?_
  refine k_put (pc := 9) (T := TX4) B inG4 tyX4 tyX4_ok nmX4 hW hS 0 rfl rfl 3 (by decide) q_f_X4_29 rfl rfl rfl rfl (Nat.le_of_ble_eq_true rfl) (tb_at tk_X4_read 5 rfl) (w_X4_read cI cZ cQ cW z_o zd_o z_letters_a zd_weight_a zd_nights_a zd_wanted_a zd_wantCount_a zd_wantBits_a zd_wanted_r z_length 0 z_tokenPlace z_token z_value z_lawTold zd_size_4 zd_law_4 z_letters zd_weight zd_nights zd_wantCount zd_wantBits zd_wanted) rfl (fun H locs hW hS => ?_)
  refine lv_aload_n (pc := 12) hx hb (tb_at tk_X4_read 6 rfl) rfl (lv_at hl 0 rfl) ?_
  refine lv_iconst (pc := 13) (v := 0) hx hb (tb_at tk_X4_read 7 rfl) (by decide) ?_
  refine k_put (pc := 14) (T := TX4) B inG4 tyX4 tyX4_ok nmX4 hW hS 0 rfl rfl 7 (by decide) q_f_X4_32 rfl rfl nz0 fz0 (Nat.le_of_ble_eq_true rfl) (tb_at tk_X4_read 8 rfl) (w_X4_read cI cZ cQ cW z_o zd_o z_letters_a zd_weight_a zd_nights_a zd_wanted_a zd_wantCount_a zd_wantBits_a zd_wanted_r z_length 0 z_tokenPlace z_token z_value 0 zd_size_4 zd_law_4 z_letters zd_weight zd_nights zd_wantCount zd_wantBits zd_wanted) rfl (fun H locs hW hS => ?_)
  refine lv_iconst (pc := 17) (v := 0) hx hb (tb_at tk_X4_read 9 rfl) (by decide) ?_
  refine lv_istore_n (pc := 18) (lv' := [(1, .int 0), (0, .ref z_o)]) hx hb (tb_at tk_X4_read 10 rfl) rfl hl (by decide) rfl (fun ls hl => ?_)
  refine lv_aload_n (pc := 19) hx hb (tb_at tk_X4_read 11 rfl) rfl (lv_at hl 1 rfl) ?_
  refine k_callv (pc := 20) B (k_runVv (rest := []) (C := RX4) B (c_X4_step l dC dI cI cZ cQ cW z_o zd_o z_letters_a z_length 0 z_tokenPlace z_token z_value 0 z_letters  N _ res h) E0_st (fun _ _ _ => trivial) q_c_X4_step q_m_X4_36 q_i_X4_step q_s_X4_step q_n_X4 hd_X4_step ⟨rfl, rfl⟩ ⟨Nat.le_of_ble_eq_true rfl, Nat.le_of_ble_eq_true rfl⟩ hW [0, 2] rfl (by decide +kernel) (q0 := 0) (ci := 4) rfl rfl rfl hl.1 rfl (Nat.le_of_ble_eq_true rfl) (tb_at tk_X4_read 12 rfl) ⟨Nat.zero_le _, Nat.zero_le _⟩) hW hS [0, 2] rfl [z_o, z_letters_a] rfl (fun _ => rfl) [some 0, none, some 1, none, none, none, none, none, none, none, none, none, none, none] (by decide +kernel) (fun u => (w_X4_read cI cZ cQ cW z_o zd_o z_letters_a zd_weight_a zd_nights_a zd_wanted_a zd_wantCount_a zd_wantBits_a zd_wanted_r z_length u.1 u.2.1 u.2.2.1 u.2.2.2 0 zd_size_4 zd_law_4 z_letters zd_weight zd_nights zd_wantCount zd_wantBits zd_wanted)) (fun _ => rfl) (fun u H locs h hW hS => ?_)
  obtain ⟨z_place_20, z_tokenPlace_20, z_token_20, z_value_20⟩ := u
  dsimp only at h
  have hW : PD (dC, dI) A (w_X4_read cI cZ cQ cW z_o zd_o z_letters_a zd_weight_a zd_nights_a zd_wanted_a zd_wantCount_a zd_wantBits_a zd_wanted_r z_length z_place_20 z_tokenPlace_20 z_token_20 z_value_20 0 zd_size_4 zd_law_4 z_letters zd_weight zd_nights zd_wantCount zd_wantBits zd_wanted) H := hW
  refine lv_iconst (pc := 23) (v := 0) hx hb (tb_at tk_X4_read 13 rfl) (by decide) ?_
  refine lv_istore_n (pc := 24) (lv' := [(2, .int 0), (1, .int 0), (0, .ref z_o)]) hx hb (tb_at tk_X4_read 14 rfl) rfl hl (by decide) rfl (fun ls hl => ?_)
  have w100 : ∀ (z_place_e100 : Int32) (z_tokenPlace_e100 : Int32) (z_token_e100 : Int32) (z_value_e100 : Int32) (z_lawTold_e100 : Int32) (zd_size_e100 : Int32) (zd_law_e100 : Int32) (zd_weight_e100 : Nat → Int32) (zd_nights_e100 : Nat → Int32) (zd_wantCount_e100 : Nat → Int32) (zd_wantBits_e100 : Nat → Int32) (zd_wanted_e100 : Nat → Nat → Int32) (H : Heap) (locs : List Loc) (ls : Array Slot), f_X4_read_e100 k z_place_e100 z_tokenPlace_e100 z_token_e100 z_value_e100 z_lawTold_e100 zd_size_e100 zd_law_e100 zd_weight_e100 zd_nights_e100 zd_wantCount_e100 zd_wantBits_e100 zd_wanted_e100 = some res → PD (dC, dI) A (w_X4_read cI cZ cQ cW z_o zd_o z_letters_a zd_weight_a zd_nights_a zd_wanted_a zd_wantCount_a zd_wantBits_a zd_wanted_r z_length z_place_e100 z_tokenPlace_e100 z_token_e100 z_value_e100 z_lawTold_e100 zd_size_e100 zd_law_e100 z_letters zd_weight_e100 zd_nights_e100 zd_wantCount_e100 zd_wantBits_e100 zd_wanted_e100) H → va_S A s.heap H locs → lv_has ls 4 [(0, .ref z_o)] → W p l e rm_X4_read s m args below meth c H locs 0 0 Q (F0 m 100 ls []) := by
    intro z_place_e100 z_tokenPlace_e100 z_token_e100 z_value_e100 z_lawTold_e100 zd_size_e100 zd_law_e100 zd_weight_e100 zd_nights_e100 zd_wantCount_e100 zd_wantBits_e100 zd_wanted_e100 H locs ls h hW hS hl
    unfold f_X4_read_e100 at h
    refine lv_bipush (pc := 100) (v := (-10)) hx hb (tb_at tk_X4_read 49 rfl) (by decide) ?_
    refine lv_aload_n (pc := 102) hx hb (tb_at tk_X4_read 50 rfl) rfl (lv_at hl 0 rfl) ?_
    refine k_get (pc := 103) (v := .int z_tokenPlace_e100) (T := TX4) B inG4 hW 0 rfl rfl 4 (by decide) q_f_X4_52 rfl rfl (tb_at tk_X4_read 51 rfl) ?_
    refine lv_isub (pc := 106) hx hb (tb_at tk_X4_read 52 rfl) ?_
    exact hQ ((-10 : Int32) - z_tokenPlace_e100) (z_place_e100, z_tokenPlace_e100, z_token_e100, z_value_e100, z_lawTold_e100, zd_size_e100, zd_law_e100, zd_weight_e100, zd_nights_e100, zd_wantCount_e100, zd_wantBits_e100, zd_wanted_e100) _ _ _ 107 rfl h hW hS (tb_at tk_X4_read 53 rfl)
  have w121 : ∀ (y1_e121 : Int32) (z_place_e121 : Int32) (z_tokenPlace_e121 : Int32) (z_token_e121 : Int32) (z_value_e121 : Int32) (z_lawTold_e121 : Int32) (zd_size_e121 : Int32) (zd_law_e121 : Int32) (zd_weight_e121 : Nat → Int32) (zd_nights_e121 : Nat → Int32) (zd_wantCount_e121 : Nat → Int32) (zd_wantBits_e121 : Nat → Int32) (zd_wanted_e121 : Nat → Nat → Int32) (H : Heap) (locs : List Loc) (ls : Array Slot), f_X4_read_e121 k y1_e121 z_place_e121 z_tokenPlace_e121 z_token_e121 z_value_e121 z_lawTold_e121 zd_size_e121 zd_law_e121 zd_weight_e121 zd_nights_e121 zd_wantCount_e121 zd_wantBits_e121 zd_wanted_e121 = some res → PD (dC, dI) A (w_X4_read cI cZ cQ cW z_o zd_o z_letters_a zd_weight_a zd_nights_a zd_wanted_a zd_wantCount_a zd_wantBits_a zd_wanted_r z_length z_place_e121 z_tokenPlace_e121 z_token_e121 z_value_e121 z_lawTold_e121 zd_size_e121 zd_law_e121 z_letters zd_weight_e121 zd_nights_e121 zd_wantCount_e121 zd_wantBits_e121 zd_wanted_e121) H → va_S A s.heap H locs → lv_has ls 4 [(1, .int y1_e121)] → W p l e rm_X4_read s m args below meth c H locs 0 0 Q (F0 m 121 ls []) := by
    intro y1_e121 z_place_e121 z_tokenPlace_e121 z_token_e121 z_value_e121 z_lawTold_e121 zd_size_e121 zd_law_e121 zd_weight_e121 zd_nights_e121 zd_wantCount_e121 zd_wantBits_e121 zd_wanted_e121 H locs ls h hW hS hl
    unfold f_X4_read_e121 at h
    refine lv_iload_n (pc := 121) hx hb (tb_at tk_X4_read 59 rfl) rfl (lv_at hl 0 rfl) ?_
    exact hQ y1_e121 (z_place_e121, z_tokenPlace_e121, z_token_e121, z_value_e121, z_lawTold_e121, zd_size_e121, zd_law_e121, zd_weight_e121, zd_nights_e121, zd_wantCount_e121, zd_wantBits_e121, zd_wanted_e121) _ _ _ 122 rfl h hW hS (tb_at tk_X4_read 60 rfl)
  have w25 : ∀ (n : Nat), ∀ (y1_l25 : Int32) (y2_l25 : Int32) (z_place_l25 : Int32) (z_tokenPlace_l25 : Int32) (z_token_l25 : Int32) (z_value_l25 : Int32) (z_lawTold_l25 : Int32) (zd_size_l25 : Int32) (zd_law_l25 : Int32) (zd_weight_l25 : Nat → Int32) (zd_nights_l25 : Nat → Int32) (zd_wantCount_l25 : Nat → Int32) (zd_wantBits_l25 : Nat → Int32) (zd_wanted_l25 : Nat → Nat → Int32) (H : Heap) (locs : List Loc) (ls : Array Slot), f_X4_read_l25 z_length z_letters (fun z_place_e100 z_tokenPlace_e100 z_token_e100 z_value_e100 z_lawTold_e100 zd_size_e100 zd_law_e100 zd_weight_e100 zd_nights_e100 zd_wantCount_e100 zd_wantBits_e100 zd_wanted_e100 => f_X4_read_e100 k z_place_e100 z_tokenPlace_e100 z_token_e100 z_value_e100 z_lawTold_e100 zd_size_e100 zd_law_e100 zd_weight_e100 zd_nights_e100 zd_wantCount_e100 zd_wantBits_e100 zd_wanted_e100) (fun y1_e121 z_place_e121 z_tokenPlace_e121 z_token_e121 z_value_e121 z_lawTold_e121 zd_size_e121 zd_law_e121 zd_weight_e121 zd_nights_e121 zd_wantCount_e121 zd_wantBits_e121 zd_wanted_e121 => f_X4_read_e121 k y1_e121 z_place_e121 z_tokenPlace_e121 z_token_e121 z_value_e121 z_lawTold_e121 zd_size_e121 zd_law_e121 zd_weight_e121 zd_nights_e121 zd_wantCount_e121 zd_wantBits_e121 zd_wanted_e121) N n y1_l25 y2_l25 z_place_l25 z_tokenPlace_l25 z_token_l25 z_value_l25 z_lawTold_l25 zd_size_l25 zd_law_l25 zd_weight_l25 zd_nights_l25 zd_wantCount_l25 zd_wantBits_l25 zd_wanted_l25 = some res → PD (dC, dI) A (w_X4_read cI cZ cQ cW z_o zd_o z_letters_a zd_weight_a zd_nights_a zd_wanted_a zd_wantCount_a zd_wantBits_a zd_wanted_r z_length z_place_l25 z_tokenPlace_l25 z_token_l25 z_value_l25 z_lawTold_l25 zd_size_l25 zd_law_l25 z_letters zd_weight_l25 zd_nights_l25 zd_wantCount_l25 zd_wantBits_l25 zd_wanted_l25) H → va_S A s.heap H locs → lv_has ls 4 [(0, .ref z_o), (1, .int y1_l25), (2, .int y2_l25)] → W p l e rm_X4_read s m args below meth c H locs 0 0 Q (F0 m 25 ls []) := by
    intro n
    induction n with
    | zero => intro y1_l25 y2_l25 z_place_l25 z_tokenPlace_l25 z_token_l25 z_value_l25 z_lawTold_l25 zd_size_l25 zd_law_l25 zd_weight_l25 zd_nights_l25 zd_wantCount_l25 zd_wantBits_l25 zd_wanted_l25 H locs ls h; exact no_n h
    | succ n25 ih25 =>
      intro y1_l25 y2_l25 z_place_l25 z_tokenPlace_l25 z_token_l25 z_value_l25 z_lawTold_l25 zd_size_l25 zd_law_l25 zd_weight_l25 zd_nights_l25 zd_wantCount_l25 zd_wantBits_l25 zd_wanted_l25 H locs ls h hW hS hl
      rw [f_X4_read_l25] at h
      refine lv_iload_n (pc := 25) hx hb (tb_at tk_X4_read 15 rfl) rfl (lv_at hl 2 rfl) ?_
      refine lv_sipush (pc := 26) (v := 150) hx hb (tb_at tk_X4_read 16 rfl) (by decide) ?_
      refine lv_icmp_ge (pc := 29) (tgt := 121) hx hb (tb_at tk_X4_read 17 rfl) (by decide) (fun cc => ?_) (fun cc => ?_)
      · have h := it_t cc h
        exact w121 y1_l25 z_place_l25 z_tokenPlace_l25 z_token_l25 z_value_l25 z_lawTold_l25 zd_size_l25 zd_law_l25 zd_weight_l25 zd_nights_l25 zd_wantCount_l25 zd_wantBits_l25 zd_wanted_l25 _ _ _ h hW hS (lv_sub hl [1] rfl)
      · have h := it_f cc h
        refine lv_aload_n (pc := 32) hx hb (tb_at tk_X4_read 18 rfl) rfl (lv_at hl 0 rfl) ?_
        refine k_get (pc := 33) (v := .int z_token_l25) (T := TX4) B inG4 hW 0 rfl rfl 5 (by decide) q_f_X4_39 rfl rfl (tb_at tk_X4_read 19 rfl) ?_
        refine lv_sipush (pc := 36) (v := 256) hx hb (tb_at tk_X4_read 20 rfl) (by decide) ?_
        refine lv_icmp_eq (pc := 39) (tgt := 121) hx hb (tb_at tk_X4_read 21 rfl) (by decide) (fun cc => ?_) (fun cc => ?_)
        · have h := it_t cc h
          exact w121 y1_l25 z_place_l25 z_tokenPlace_l25 z_token_l25 z_value_l25 z_lawTold_l25 zd_size_l25 zd_law_l25 zd_weight_l25 zd_nights_l25 zd_wantCount_l25 zd_wantBits_l25 zd_wanted_l25 _ _ _ h hW hS (lv_sub hl [1] rfl)
        · have h := it_f cc h
          refine lv_aload_n (pc := 42) hx hb (tb_at tk_X4_read 22 rfl) rfl (lv_at hl 0 rfl) ?_
          refine k_get (pc := 43) (v := .int z_token_l25) (T := TX4) B inG4 hW 0 rfl rfl 5 (by decide) q_f_X4_39 rfl rfl (tb_at tk_X4_read 23 rfl) ?_
          refine lv_bipush (pc := 46) (v := 112) hx hb (tb_at tk_X4_read 24 rfl) (by decide) ?_
          have w95 : ∀ (z_place_j95 : Int32) (z_tokenPlace_j95 : Int32) (z_token_j95 : Int32) (z_value_j95 : Int32) (z_lawTold_j95 : Int32) (zd_size_j95 : Int32) (zd_law_j95 : Int32) (zd_weight_j95 : Nat → Int32) (zd_nights_j95 : Nat → Int32) (zd_wantCount_j95 : Nat → Int32) (zd_wantBits_j95 : Nat → Int32) (zd_wanted_j95 : Nat → Nat → Int32) (s0_j95 : Int32) (H : Heap) (locs : List Loc) (ls : Array Slot), f_X4_read_j95 z_length z_letters y1_l25 y2_l25 (fun z_place_e100 z_tokenPlace_e100 z_token_e100 z_value_e100 z_lawTold_e100 zd_size_e100 zd_law_e100 zd_weight_e100 zd_nights_e100 zd_wantCount_e100 zd_wantBits_e100 zd_wanted_e100 => f_X4_read_e100 k z_place_e100 z_tokenPlace_e100 z_token_e100 z_value_e100 z_lawTold_e100 zd_size_e100 zd_law_e100 zd_weight_e100 zd_nights_e100 zd_wantCount_e100 zd_wantBits_e100 zd_wanted_e100) (f_X4_read_l25 z_length z_letters (fun z_place_e100 z_tokenPlace_e100 z_token_e100 z_value_e100 z_lawTold_e100 zd_size_e100 zd_law_e100 zd_weight_e100 zd_nights_e100 zd_wantCount_e100 zd_wantBits_e100 zd_wanted_e100 => f_X4_read_e100 k z_place_e100 z_tokenPlace_e100 z_token_e100 z_value_e100 z_lawTold_e100 zd_size_e100 zd_law_e100 zd_weight_e100 zd_nights_e100 zd_wantCount_e100 zd_wantBits_e100 zd_wanted_e100) (fun y1_e121 z_place_e121 z_tokenPlace_e121 z_token_e121 z_value_e121 z_lawTold_e121 zd_size_e121 zd_law_e121 zd_weight_e121 zd_nights_e121 zd_wantCount_e121 zd_wantBits_e121 zd_wanted_e121 => f_X4_read_e121 k y1_e121 z_place_e121 z_tokenPlace_e121 z_token_e121 z_value_e121 z_lawTold_e121 zd_size_e121 zd_law_e121 zd_weight_e121 zd_nights_e121 zd_wantCount_e121 zd_wantBits_e121 zd_wanted_e121) N n25) N z_place_j95 z_tokenPlace_j95 z_token_j95 z_value_j95 z_lawTold_j95 zd_size_j95 zd_law_j95 zd_weight_j95 zd_nights_j95 zd_wantCount_j95 zd_wantBits_j95 zd_wanted_j95 s0_j95 = some res → PD (dC, dI) A (w_X4_read cI cZ cQ cW z_o zd_o z_letters_a zd_weight_a zd_nights_a zd_wanted_a zd_wantCount_a zd_wantBits_a zd_wanted_r z_length z_place_j95 z_tokenPlace_j95 z_token_j95 z_value_j95 z_lawTold_j95 zd_size_j95 zd_law_j95 z_letters zd_weight_j95 zd_nights_j95 zd_wantCount_j95 zd_wantBits_j95 zd_wanted_j95) H → va_S A s.heap H locs → lv_has ls 4 [(0, .ref z_o), (1, .int y1_l25), (2, .int y2_l25)] → W p l e rm_X4_read s m args below meth c H locs 0 0 Q (F0 m 95 ls [.int s0_j95]) := by
            intro z_place_j95 z_tokenPlace_j95 z_token_j95 z_value_j95 z_lawTold_j95 zd_size_j95 zd_law_j95 zd_weight_j95 zd_nights_j95 zd_wantCount_j95 zd_wantBits_j95 zd_wanted_j95 s0_j95 H locs ls h hW hS hl
            unfold f_X4_read_j95 at h
            refine lv_istore_n (pc := 95) (lv' := [(3, .int s0_j95), (0, .ref z_o), (1, .int y1_l25), (2, .int y2_l25)]) hx hb (tb_at tk_X4_read 46 rfl) rfl hl (by decide) rfl (fun ls hl => ?_)
            refine lv_iload_n (pc := 96) hx hb (tb_at tk_X4_read 47 rfl) rfl (lv_at hl 0 rfl) ?_
            refine lv_if_ne (pc := 97) (tgt := 108) hx hb (tb_at tk_X4_read 48 rfl) (by decide) (fun cc => ?_) (fun cc => ?_)
            · have h := it_f cc h
              refine lv_iinc (pc := 108) (v := y1_l25 + 1) (lv' := [(1, .int (y1_l25 + 1)), (3, .int s0_j95), (0, .ref z_o), (2, .int y2_l25)]) hx hb (tb_at tk_X4_read 54 rfl) hl (k := 2) rfl rfl (by decide) rfl (fun ls hl => ?_)
              refine lv_aload_n (pc := 111) hx hb (tb_at tk_X4_read 55 rfl) rfl (lv_at hl 2 rfl) ?_
              refine k_callv (pc := 112) B (k_runVv (rest := []) (C := RX4) B (c_X4_step l dC dI cI cZ cQ cW z_o zd_o z_letters_a z_length z_place_j95 z_tokenPlace_j95 z_token_j95 z_value_j95 z_lawTold_j95 z_letters  N _ res h) E0_st (fun _ _ _ => trivial) q_c_X4_step q_m_X4_36 q_i_X4_step q_s_X4_step q_n_X4 hd_X4_step ⟨rfl, rfl⟩ ⟨Nat.le_of_ble_eq_true rfl, Nat.le_of_ble_eq_true rfl⟩ hW [0, 2] rfl (by decide +kernel) (q0 := 0) (ci := 4) rfl rfl rfl hl.1 rfl (Nat.le_of_ble_eq_true rfl) (tb_at tk_X4_read 56 rfl) ⟨Nat.zero_le _, Nat.zero_le _⟩) hW hS [0, 2] rfl [z_o, z_letters_a] rfl (fun _ => rfl) [some 0, none, some 1, none, none, none, none, none, none, none, none, none, none, none] (by decide +kernel) (fun u => (w_X4_read cI cZ cQ cW z_o zd_o z_letters_a zd_weight_a zd_nights_a zd_wanted_a zd_wantCount_a zd_wantBits_a zd_wanted_r z_length u.1 u.2.1 u.2.2.1 u.2.2.2 z_lawTold_j95 zd_size_j95 zd_law_j95 z_letters zd_weight_j95 zd_nights_j95 zd_wantCount_j95 zd_wantBits_j95 zd_wanted_j95)) (fun _ => rfl) (fun u H locs h hW hS => ?_)
              obtain ⟨z_place_112, z_tokenPlace_112, z_token_112, z_value_112⟩ := u
              dsimp only at h
              have hW : PD (dC, dI) A (w_X4_read cI cZ cQ cW z_o zd_o z_letters_a zd_weight_a zd_nights_a zd_wanted_a zd_wantCount_a zd_wantBits_a zd_wanted_r z_length z_place_112 z_tokenPlace_112 z_token_112 z_value_112 z_lawTold_j95 zd_size_j95 zd_law_j95 z_letters zd_weight_j95 zd_nights_j95 zd_wantCount_j95 zd_wantBits_j95 zd_wanted_j95) H := hW
              refine lv_iinc (pc := 115) (v := y2_l25 + 1) (lv' := [(2, .int (y2_l25 + 1)), (1, .int (y1_l25 + 1)), (3, .int s0_j95), (0, .ref z_o)]) hx hb (tb_at tk_X4_read 57 rfl) hl (k := 3) rfl rfl (by decide) rfl (fun ls hl => ?_)
              refine lv_goto (pc := 118) (tgt := 25) hx hb (tb_at tk_X4_read 58 rfl) (by decide) ?_
              exact ih25 (y1_l25 + 1) (y2_l25 + 1) z_place_112 z_tokenPlace_112 z_token_112 z_value_112 z_lawTold_j95 zd_size_j95 zd_law_j95 zd_weight_j95 zd_nights_j95 zd_wantCount_j95 zd_wantBits_j95 zd_wanted_j95 _ _ _ h hW hS (lv_sub hl [3, 1, 0] rfl)
            · have h := it_t cc h
              exact w100 z_place_j95 z_tokenPlace_j95 z_token_j95 z_value_j95 z_lawTold_j95 zd_size_j95 zd_law_j95 zd_weight_j95 zd_nights_j95 zd_wantCount_j95 zd_wantBits_j95 zd_wanted_j95 _ _ _ h hW hS (lv_sub hl [1] rfl)
          refine lv_icmp_ne (pc := 48) (tgt := 58) hx hb (tb_at tk_X4_read 25 rfl) (by decide) (fun cc => ?_) (fun cc => ?_)
          · have h := it_f cc h
            refine lv_aload_n (pc := 58) hx hb (tb_at tk_X4_read 29 rfl) rfl (lv_at hl 0 rfl) ?_
            refine k_get (pc := 59) (v := .int z_token_l25) (T := TX4) B inG4 hW 0 rfl rfl 5 (by decide) q_f_X4_39 rfl rfl (tb_at tk_X4_read 30 rfl) ?_
            refine lv_bipush (pc := 62) (v := 119) hx hb (tb_at tk_X4_read 31 rfl) (by decide) ?_
            refine lv_icmp_ne (pc := 64) (tgt := 74) hx hb (tb_at tk_X4_read 32 rfl) (by decide) (fun cc => ?_) (fun cc => ?_)
            · have h := it_f cc h
              refine lv_aload_n (pc := 74) hx hb (tb_at tk_X4_read 36 rfl) rfl (lv_at hl 0 rfl) ?_
              refine k_get (pc := 75) (v := .int z_token_l25) (T := TX4) B inG4 hW 0 rfl rfl 5 (by decide) q_f_X4_39 rfl rfl (tb_at tk_X4_read 37 rfl) ?_
              refine lv_bipush (pc := 78) (v := 108) hx hb (tb_at tk_X4_read 38 rfl) (by decide) ?_
              have w94 : ∀ (z_place_j94 : Int32) (z_tokenPlace_j94 : Int32) (z_token_j94 : Int32) (z_value_j94 : Int32) (z_lawTold_j94 : Int32) (zd_law_j94 : Int32) (H : Heap) (locs : List Loc) (ls : Array Slot), f_X4_read_j94 z_length z_letters y1_l25 y2_l25 zd_size_l25 zd_weight_l25 zd_nights_l25 zd_wantCount_l25 zd_wantBits_l25 zd_wanted_l25 (fun z_place_e100 z_tokenPlace_e100 z_token_e100 z_value_e100 z_lawTold_e100 zd_size_e100 zd_law_e100 zd_weight_e100 zd_nights_e100 zd_wantCount_e100 zd_wantBits_e100 zd_wanted_e100 => f_X4_read_e100 k z_place_e100 z_tokenPlace_e100 z_token_e100 z_value_e100 z_lawTold_e100 zd_size_e100 zd_law_e100 zd_weight_e100 zd_nights_e100 zd_wantCount_e100 zd_wantBits_e100 zd_wanted_e100) (f_X4_read_l25 z_length z_letters (fun z_place_e100 z_tokenPlace_e100 z_token_e100 z_value_e100 z_lawTold_e100 zd_size_e100 zd_law_e100 zd_weight_e100 zd_nights_e100 zd_wantCount_e100 zd_wantBits_e100 zd_wanted_e100 => f_X4_read_e100 k z_place_e100 z_tokenPlace_e100 z_token_e100 z_value_e100 z_lawTold_e100 zd_size_e100 zd_law_e100 zd_weight_e100 zd_nights_e100 zd_wantCount_e100 zd_wantBits_e100 zd_wanted_e100) (fun y1_e121 z_place_e121 z_tokenPlace_e121 z_token_e121 z_value_e121 z_lawTold_e121 zd_size_e121 zd_law_e121 zd_weight_e121 zd_nights_e121 zd_wantCount_e121 zd_wantBits_e121 zd_wanted_e121 => f_X4_read_e121 k y1_e121 z_place_e121 z_tokenPlace_e121 z_token_e121 z_value_e121 z_lawTold_e121 zd_size_e121 zd_law_e121 zd_weight_e121 zd_nights_e121 zd_wantCount_e121 zd_wantBits_e121 zd_wanted_e121) N n25) N z_place_j94 z_tokenPlace_j94 z_token_j94 z_value_j94 z_lawTold_j94 zd_law_j94 = some res → PD (dC, dI) A (w_X4_read cI cZ cQ cW z_o zd_o z_letters_a zd_weight_a zd_nights_a zd_wanted_a zd_wantCount_a zd_wantBits_a zd_wanted_r z_length z_place_j94 z_tokenPlace_j94 z_token_j94 z_value_j94 z_lawTold_j94 zd_size_l25 zd_law_j94 z_letters zd_weight_l25 zd_nights_l25 zd_wantCount_l25 zd_wantBits_l25 zd_wanted_l25) H → va_S A s.heap H locs → lv_has ls 4 [(0, .ref z_o), (1, .int y1_l25), (2, .int y2_l25)] → W p l e rm_X4_read s m args below meth c H locs 0 0 Q (F0 m 94 ls []) := by
                intro z_place_j94 z_tokenPlace_j94 z_token_j94 z_value_j94 z_lawTold_j94 zd_law_j94 H locs ls h hW hS hl
                unfold f_X4_read_j94 at h
                refine lv_iconst (pc := 94) (v := 0) hx hb (tb_at tk_X4_read 45 rfl) (by decide) ?_
                exact w95 z_place_j94 z_tokenPlace_j94 z_token_j94 z_value_j94 z_lawTold_j94 zd_size_l25 zd_law_j94 zd_weight_l25 zd_nights_l25 zd_wantCount_l25 zd_wantBits_l25 zd_wanted_l25 0 _ _ _ h hW hS (lv_sub hl [0, 1, 2] rfl)
              refine lv_icmp_ne (pc := 80) (tgt := 94) hx hb (tb_at tk_X4_read 39 rfl) (by decide) (fun cc => ?_) (fun cc => ?_)
              · have h := it_f cc h
                exact w94 z_place_l25 z_tokenPlace_l25 z_token_l25 z_value_l25 z_lawTold_l25 zd_law_l25 _ _ _ h hW hS (lv_sub hl [0, 1, 2] rfl)
              · have h := it_t cc h
                refine lv_aload_n (pc := 83) hx hb (tb_at tk_X4_read 40 rfl) rfl (lv_at hl 0 rfl) ?_
                refine k_calli (pc := 84) B (k_runVi (rest := []) (C := RX4) B (c_X4_readLaw l dC dI cI cZ cQ cW z_o zd_o z_letters_a zd_weight_a zd_nights_a zd_wanted_a zd_wantCount_a zd_wantBits_a z_length z_place_l25 z_tokenPlace_l25 z_token_l25 z_value_l25 z_lawTold_l25 z_letters zd_size_l25 zd_law_l25  N _ res h) E0_st (fun _ _ _ => trivial) q_c_X4_readLaw q_m_X4_49 q_i_X4_readLaw q_s_X4_readLaw q_n_X4 hd_X4_readLaw ⟨rfl, rfl⟩ ⟨Nat.le_of_ble_eq_true rfl, Nat.le_of_ble_eq_true rfl⟩ hW [0, 2, 1] rfl (by decide +kernel) (q0 := 0) (ci := 4) rfl rfl rfl hl.1 rfl (Nat.le_of_ble_eq_true rfl) (tb_at tk_X4_read 41 rfl) ⟨Nat.zero_le _, Nat.zero_le _⟩) hW hS [0, 2, 1] rfl [z_o, z_letters_a, zd_o] rfl (fun _ => rfl) [some 0, some 2, some 1, none, none, none, none, none, none, none, none, none, none, none] (by decide +kernel) (fun u => (w_X4_read cI cZ cQ cW z_o zd_o z_letters_a zd_weight_a zd_nights_a zd_wanted_a zd_wantCount_a zd_wantBits_a zd_wanted_r z_length u.1 u.2.1 u.2.2.1 u.2.2.2.1 u.2.2.2.2.1 zd_size_l25 u.2.2.2.2.2 z_letters zd_weight_l25 zd_nights_l25 zd_wantCount_l25 zd_wantBits_l25 zd_wanted_l25)) (fun _ => rfl) (fun r84 u H locs h hW hS => ?_)
                obtain ⟨z_place_84, z_tokenPlace_84, z_token_84, z_value_84, z_lawTold_84, zd_law_84⟩ := u
                dsimp only at h
                have hW : PD (dC, dI) A (w_X4_read cI cZ cQ cW z_o zd_o z_letters_a zd_weight_a zd_nights_a zd_wanted_a zd_wantCount_a zd_wantBits_a zd_wanted_r z_length z_place_84 z_tokenPlace_84 z_token_84 z_value_84 z_lawTold_84 zd_size_l25 zd_law_84 z_letters zd_weight_l25 zd_nights_l25 zd_wantCount_l25 zd_wantBits_l25 zd_wanted_l25) H := hW
                refine lv_if_eq (pc := 87) (tgt := 94) hx hb (tb_at tk_X4_read 42 rfl) (by decide) (fun cc => ?_) (fun cc => ?_)
                · have h := it_t cc h
                  exact w94 z_place_84 z_tokenPlace_84 z_token_84 z_value_84 z_lawTold_84 zd_law_84 _ _ _ h hW hS (lv_sub hl [0, 1, 2] rfl)
                · have h := it_f cc h
                  refine lv_iconst (pc := 90) (v := 1) hx hb (tb_at tk_X4_read 43 rfl) (by decide) ?_
                  refine lv_goto (pc := 91) (tgt := 95) hx hb (tb_at tk_X4_read 44 rfl) (by decide) ?_
                  exact w95 z_place_84 z_tokenPlace_84 z_token_84 z_value_84 z_lawTold_84 zd_size_l25 zd_law_84 zd_weight_l25 zd_nights_l25 zd_wantCount_l25 zd_wantBits_l25 zd_wanted_l25 1 _ _ _ h hW hS (lv_sub hl [0, 1, 2] rfl)
            · have h := it_t cc h
              refine lv_aload_n (pc := 67) hx hb (tb_at tk_X4_read 33 rfl) rfl (lv_at hl 0 rfl) ?_
              refine k_calli (pc := 68) B (k_runVi (rest := []) (C := RX4) B (c_X4_readWants l dC dI cI cZ cQ cW z_o zd_o z_letters_a zd_weight_a zd_nights_a zd_wanted_a zd_wantCount_a zd_wantBits_a zd_wanted_r z_length z_place_l25 z_tokenPlace_l25 z_token_l25 z_value_l25 z_lawTold_l25 zd_size_l25 zd_law_l25 z_letters zd_wantCount_l25 zd_wantBits_l25 zd_wanted_l25  N _ res h) E0_st (fun _ _ _ => trivial) q_c_X4_readWants q_m_X4_46 q_i_X4_readWants q_s_X4_readWants q_n_X4 hd_X4_readWants ⟨rfl, rfl⟩ ⟨Nat.le_of_ble_eq_true rfl, Nat.le_of_ble_eq_true rfl⟩ hW [0, 1, 2, 5, 6, 7, 8, 9, 10, 11, 12, 13] rfl (by decide +kernel) (q0 := 0) (ci := 4) rfl rfl rfl hl.1 rfl (Nat.le_of_ble_eq_true rfl) (tb_at tk_X4_read 34 rfl) ⟨Nat.zero_le _, Nat.zero_le _⟩) hW hS [0, 1, 2, 5, 6, 7, 8, 9, 10, 11, 12, 13] rfl [z_o, zd_o, z_letters_a, zd_wantCount_a, zd_wantBits_a, zd_wanted_a, zd_wanted_r 0, zd_wanted_r 1, zd_wanted_r 2, zd_wanted_r 3, zd_wanted_r 4, zd_wanted_r 5] rfl (fun _ => rfl) [some 0, some 1, some 2, none, none, some 3, some 4, some 5, some 6, some 7, some 8, some 9, some 10, some 11] (by decide +kernel) (fun u => (w_X4_read cI cZ cQ cW z_o zd_o z_letters_a zd_weight_a zd_nights_a zd_wanted_a zd_wantCount_a zd_wantBits_a zd_wanted_r z_length u.1 u.2.1 u.2.2.1 u.2.2.2.1 z_lawTold_l25 zd_size_l25 zd_law_l25 z_letters zd_weight_l25 zd_nights_l25 u.2.2.2.2.1 u.2.2.2.2.2.1 u.2.2.2.2.2.2)) (fun _ => rfl) (fun r68 u H locs h hW hS => ?_)
              obtain ⟨z_place_68, z_tokenPlace_68, z_token_68, z_value_68, zd_wantCount_68, zd_wantBits_68, zd_wanted_68⟩ := u
              dsimp only at h
              have hW : PD (dC, dI) A (w_X4_read cI cZ cQ cW z_o zd_o z_letters_a zd_weight_a zd_nights_a zd_wanted_a zd_wantCount_a zd_wantBits_a zd_wanted_r z_length z_place_68 z_tokenPlace_68 z_token_68 z_value_68 z_lawTold_l25 zd_size_l25 zd_law_l25 z_letters zd_weight_l25 zd_nights_l25 zd_wantCount_68 zd_wantBits_68 zd_wanted_68) H := hW
              refine lv_goto (pc := 71) (tgt := 95) hx hb (tb_at tk_X4_read 35 rfl) (by decide) ?_
              exact w95 z_place_68 z_tokenPlace_68 z_token_68 z_value_68 z_lawTold_l25 zd_size_l25 zd_law_l25 zd_weight_l25 zd_nights_l25 zd_wantCount_68 zd_wantBits_68 zd_wanted_68 r68 _ _ _ h hW hS (lv_sub hl [0, 1, 2] rfl)
          · have h := it_t cc h
            refine lv_aload_n (pc := 51) hx hb (tb_at tk_X4_read 26 rfl) rfl (lv_at hl 0 rfl) ?_
            refine k_calli (pc := 52) B (k_runVi (rest := []) (C := RX4) B (c_X4_readPerson l dC dI cI cZ cQ cW z_o zd_o z_letters_a zd_weight_a zd_nights_a zd_wanted_a zd_wantCount_a zd_wantBits_a z_length z_place_l25 z_tokenPlace_l25 z_token_l25 z_value_l25 z_lawTold_l25 zd_size_l25 zd_law_l25 z_letters zd_weight_l25 zd_nights_l25 zd_wantCount_l25 zd_wantBits_l25  N _ res h) E0_st (fun _ _ _ => trivial) q_c_X4_readPerson q_m_X4_42 q_i_X4_readPerson q_s_X4_readPerson q_n_X4 hd_X4_readPerson ⟨rfl, rfl⟩ ⟨Nat.le_of_ble_eq_true rfl, Nat.le_of_ble_eq_true rfl⟩ hW [0, 1, 2, 3, 4, 5, 6] rfl (by decide +kernel) (q0 := 0) (ci := 4) rfl rfl rfl hl.1 rfl (Nat.le_of_ble_eq_true rfl) (tb_at tk_X4_read 27 rfl) ⟨Nat.zero_le _, Nat.zero_le _⟩) hW hS [0, 1, 2, 3, 4, 5, 6] rfl [z_o, zd_o, z_letters_a, zd_weight_a, zd_nights_a, zd_wantCount_a, zd_wantBits_a] rfl (fun _ => rfl) [some 0, some 1, some 2, some 3, some 4, some 5, some 6, none, none, none, none, none, none, none] (by decide +kernel) (fun u => (w_X4_read cI cZ cQ cW z_o zd_o z_letters_a zd_weight_a zd_nights_a zd_wanted_a zd_wantCount_a zd_wantBits_a zd_wanted_r z_length u.1 u.2.1 u.2.2.1 u.2.2.2.1 z_lawTold_l25 u.2.2.2.2.1 zd_law_l25 z_letters u.2.2.2.2.2.1 u.2.2.2.2.2.2.1 u.2.2.2.2.2.2.2.1 u.2.2.2.2.2.2.2.2 zd_wanted_l25)) (fun _ => rfl) (fun r52 u H locs h hW hS => ?_)
            obtain ⟨z_place_52, z_tokenPlace_52, z_token_52, z_value_52, zd_size_52, zd_weight_52, zd_nights_52, zd_wantCount_52, zd_wantBits_52⟩ := u
            dsimp only at h
            have hW : PD (dC, dI) A (w_X4_read cI cZ cQ cW z_o zd_o z_letters_a zd_weight_a zd_nights_a zd_wanted_a zd_wantCount_a zd_wantBits_a zd_wanted_r z_length z_place_52 z_tokenPlace_52 z_token_52 z_value_52 z_lawTold_l25 zd_size_52 zd_law_l25 z_letters zd_weight_52 zd_nights_52 zd_wantCount_52 zd_wantBits_52 zd_wanted_l25) H := hW
            refine lv_goto (pc := 55) (tgt := 95) hx hb (tb_at tk_X4_read 28 rfl) (by decide) ?_
            exact w95 z_place_52 z_tokenPlace_52 z_token_52 z_value_52 z_lawTold_l25 zd_size_52 zd_law_l25 zd_weight_52 zd_nights_52 zd_wantCount_52 zd_wantBits_52 zd_wanted_l25 r52 _ _ _ h hW hS (lv_sub hl [0, 1, 2] rfl)
  exact w25 N 0 0 z_place_20 z_tokenPlace_20 z_token_20 z_value_20 0 zd_size_4 zd_law_4 zd_weight zd_nights zd_wantCount zd_wantBits zd_wanted _ _ _ h hW hS (lv_sub hl [2, 1, 0] rfl)
