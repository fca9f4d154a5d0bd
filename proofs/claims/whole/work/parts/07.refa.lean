/-! 07.refa: printed by wip/whole/gen.py: pure functions, and that the bytecode meets them -/
def f_X8_in {ρ : Type} (N : Nat) (x0 : Int32) (x1 : Int32) (x2 : Int32) (k : Int32 → Option ρ) : Option ρ := if x0 < x1 then (k 0) else (if x2 < x0 then (k 0) else (k 1))
abbrev rm_X8_in : Room := { frames := 0, cells := 0, slots := 0, locals := 0 }
set_option maxHeartbeats 4000000 in
set_option maxRecDepth 100000 in
theorem c_X8_in (l : Launch) (dC : Nat → ClassId) (dI : Nat → Nat → Nat) (cI cZ cQ cW : ClassId) (x0 : Int32) (x1 : Int32) (x2 : Int32) {ρ : Type} (N : Nat) (k : Int32 → Option ρ) (res : ρ) (h : f_X8_in N x0 x1 x2 k = some res) : Ci l yX8_in (WS yX8_in cX8_in 3 (some .boolean)) rm_X8_in (dC, dI) (tysG cI cZ cQ cW) E0 [.int x0, .int x1, .int x2] [] (fun (_ : Unit) => []) (fun r _ => k r = some res) := by
  refine Ci.of (cc := cX8_in) (n := 3) (by decide +kernel) (Nat.le_of_ble_eq_true rfl) ?_
  intro p e s m args below meth c A ls Q B hW hE hS hl hQ
  have hx := B.1
  have hb := B.2.1
  have hl : lv_has ls 3 [(0, .int x0), (1, .int x1), (2, .int x2)] := hl
  unfold f_X8_in at h
  refine lv_iload_n (pc := 0) hx hb (tb_at tk_X8_in 0 rfl) rfl (lv_at hl 0 rfl) ?_
  refine lv_iload_n (pc := 1) hx hb (tb_at tk_X8_in 1 rfl) rfl (lv_at hl 1 rfl) ?_
  refine lv_icmp_lt (pc := 2) (tgt := 14) hx hb (tb_at tk_X8_in 2 rfl) (by decide) (fun cc => ?_) (fun cc => ?_)
  · have h := it_t cc h
    refine lv_iconst (pc := 14) (v := 0) hx hb (tb_at tk_X8_in 8 rfl) (by decide) ?_
    exact hQ 0 () _ _ _ 15 nz0 h hW hS (tb_at tk_X8_in 9 rfl)
  · have h := it_f cc h
    refine lv_iload_n (pc := 5) hx hb (tb_at tk_X8_in 3 rfl) rfl (lv_at hl 0 rfl) ?_
    refine lv_iload_n (pc := 6) hx hb (tb_at tk_X8_in 4 rfl) rfl (lv_at hl 2 rfl) ?_
    refine lv_icmp_gt (pc := 7) (tgt := 14) hx hb (tb_at tk_X8_in 5 rfl) (by decide) (fun cc => ?_) (fun cc => ?_)
    · have h := it_t cc h
      refine lv_iconst (pc := 14) (v := 0) hx hb (tb_at tk_X8_in 8 rfl) (by decide) ?_
      exact hQ 0 () _ _ _ 15 nz0 h hW hS (tb_at tk_X8_in 9 rfl)
    · have h := it_f cc h
      refine lv_iconst (pc := 10) (v := 1) hx hb (tb_at tk_X8_in 6 rfl) (by decide) ?_
      refine lv_goto (pc := 11) (tgt := 15) hx hb (tb_at tk_X8_in 7 rfl) (by decide) ?_
      exact hQ 1 () _ _ _ 15 nz1 h hW hS (tb_at tk_X8_in 9 rfl)
def f_X8_has {ρ : Type} (N : Nat) (x0 : Int32) (x1 : Int32) (k : Int32 → Option ρ) : Option ρ := if ((x0 >>> (x1 &&& 31)) &&& 1) = 1 then (k 1) else (k 0)
abbrev rm_X8_has : Room := { frames := 0, cells := 0, slots := 0, locals := 0 }
set_option maxHeartbeats 4000000 in
set_option maxRecDepth 100000 in
theorem c_X8_has (l : Launch) (dC : Nat → ClassId) (dI : Nat → Nat → Nat) (cI cZ cQ cW : ClassId) (x0 : Int32) (x1 : Int32) {ρ : Type} (N : Nat) (k : Int32 → Option ρ) (res : ρ) (h : f_X8_has N x0 x1 k = some res) : Ci l yX8_has (WS yX8_has cX8_has 2 (some .boolean)) rm_X8_has (dC, dI) (tysG cI cZ cQ cW) E0 [.int x0, .int x1] [] (fun (_ : Unit) => []) (fun r _ => k r = some res) := by
  refine Ci.of (cc := cX8_has) (n := 2) (by decide +kernel) (Nat.le_of_ble_eq_true rfl) ?_
  intro p e s m args below meth c A ls Q B hW hE hS hl hQ
  have hx := B.1
  have hb := B.2.1
  have hl : lv_has ls 2 [(0, .int x0), (1, .int x1)] := hl
  unfold f_X8_has at h
  refine lv_iload_n (pc := 0) hx hb (tb_at tk_X8_has 0 rfl) rfl (lv_at hl 0 rfl) ?_
  refine lv_iload_n (pc := 1) hx hb (tb_at tk_X8_has 1 rfl) rfl (lv_at hl 1 rfl) ?_
  refine lv_ishr (pc := 2) hx hb (tb_at tk_X8_has 2 rfl) ?_
  refine lv_iconst (pc := 3) (v := 1) hx hb (tb_at tk_X8_has 3 rfl) (by decide) ?_
  refine lv_iand (pc := 4) hx hb (tb_at tk_X8_has 4 rfl) ?_
  refine lv_iconst (pc := 5) (v := 1) hx hb (tb_at tk_X8_has 5 rfl) (by decide) ?_
  refine lv_icmp_ne (pc := 6) (tgt := 13) hx hb (tb_at tk_X8_has 6 rfl) (by decide) (fun cc => ?_) (fun cc => ?_)
  · have h := it_f cc h
    refine lv_iconst (pc := 13) (v := 0) hx hb (tb_at tk_X8_has 9 rfl) (by decide) ?_
    exact hQ 0 () _ _ _ 14 nz0 h hW hS (tb_at tk_X8_has 10 rfl)
  · have h := it_t cc h
    refine lv_iconst (pc := 9) (v := 1) hx hb (tb_at tk_X8_has 7 rfl) (by decide) ?_
    refine lv_goto (pc := 10) (tgt := 14) hx hb (tb_at tk_X8_has 8 rfl) (by decide) ?_
    exact hQ 1 () _ _ _ 14 nz1 h hW hS (tb_at tk_X8_has 10 rfl)
def f_X8_bits_l4 {ρ : Type} (x0 : Int32) (k : Int32 → Option ρ) : Nat → Int32 → Int32 → Option ρ
  | 0, _, _ => none
  | n4 + 1, y1_l4, y2_l4 => if 8 ≤ y2_l4 then (k y1_l4) else ((f_X8_bits_l4 x0 k n4) (y1_l4 + ((x0 >>> (y2_l4 &&& 31)) &&& 1)) (y2_l4 + 1))
def f_X8_bits {ρ : Type} (N : Nat) (x0 : Int32) (k : Int32 → Option ρ) : Option ρ := f_X8_bits_l4 x0 k N 0 0
abbrev rm_X8_bits : Room := { frames := 0, cells := 0, slots := 0, locals := 0 }
set_option maxHeartbeats 4000000 in
set_option maxRecDepth 100000 in
theorem c_X8_bits (l : Launch) (dC : Nat → ClassId) (dI : Nat → Nat → Nat) (cI cZ cQ cW : ClassId) (x0 : Int32) {ρ : Type} (N : Nat) (k : Int32 → Option ρ) (res : ρ) (h : f_X8_bits N x0 k = some res) : Ci l yX8_bits (WS yX8_bits cX8_bits 3 (some .int)) rm_X8_bits (dC, dI) (tysG cI cZ cQ cW) E0 [.int x0] [] (fun (_ : Unit) => []) (fun r _ => k r = some res) := by
  refine Ci.of (cc := cX8_bits) (n := 3) (by decide +kernel) (Nat.le_of_ble_eq_true rfl) ?_
  intro p e s m args below meth c A ls Q B hW hE hS hl hQ
  have hx := B.1
  have hb := B.2.1
  have hl : lv_has ls 3 [(0, .int x0)] := hl
  unfold f_X8_bits at h
  refine lv_iconst (pc := 0) (v := 0) hx hb (tb_at tk_X8_bits 0 rfl) (by decide) ?_
  refine lv_istore_n (pc := 1) (lv' := [(1, .int 0), (0, .int x0)]) hx hb (tb_at tk_X8_bits 1 rfl) rfl hl (by decide) rfl (fun ls hl => ?_)
  refine lv_iconst (pc := 2) (v := 0) hx hb (tb_at tk_X8_bits 2 rfl) (by decide) ?_
  refine lv_istore_n (pc := 3) (lv' := [(2, .int 0), (1, .int 0), (0, .int x0)]) hx hb (tb_at tk_X8_bits 3 rfl) rfl hl (by decide) rfl (fun ls hl => ?_)
  have w4 : ∀ (n : Nat), ∀ (y1_l4 : Int32) (y2_l4 : Int32) (H : Heap) (locs : List Loc) (ls : Array Slot), f_X8_bits_l4 x0 k n y1_l4 y2_l4 = some res → PD (dC, dI) A [] H → va_S A s.heap H locs → lv_has ls 3 [(0, .int x0), (1, .int y1_l4), (2, .int y2_l4)] → W p l e rm_X8_bits s m args below meth c H locs 0 0 Q (F0 m 4 ls []) := by
    intro n
    induction n with
    | zero => intro y1_l4 y2_l4 H locs ls h; exact no_n h
    | succ n4 ih4 =>
      intro y1_l4 y2_l4 H locs ls h hW hS hl
      rw [f_X8_bits_l4] at h
      refine lv_iload_n (pc := 4) hx hb (tb_at tk_X8_bits 4 rfl) rfl (lv_at hl 2 rfl) ?_
      refine lv_bipush (pc := 5) (v := 8) hx hb (tb_at tk_X8_bits 5 rfl) (by decide) ?_
      refine lv_icmp_ge (pc := 7) (tgt := 24) hx hb (tb_at tk_X8_bits 6 rfl) (by decide) (fun cc => ?_) (fun cc => ?_)
      · have h := it_t cc h
        refine lv_iload_n (pc := 24) hx hb (tb_at tk_X8_bits 17 rfl) rfl (lv_at hl 1 rfl) ?_
        exact hQ y1_l4 () _ _ _ 25 rfl h hW hS (tb_at tk_X8_bits 18 rfl)
      · have h := it_f cc h
        refine lv_iload_n (pc := 10) hx hb (tb_at tk_X8_bits 7 rfl) rfl (lv_at hl 1 rfl) ?_
        refine lv_iload_n (pc := 11) hx hb (tb_at tk_X8_bits 8 rfl) rfl (lv_at hl 0 rfl) ?_
        refine lv_iload_n (pc := 12) hx hb (tb_at tk_X8_bits 9 rfl) rfl (lv_at hl 2 rfl) ?_
        refine lv_ishr (pc := 13) hx hb (tb_at tk_X8_bits 10 rfl) ?_
        refine lv_iconst (pc := 14) (v := 1) hx hb (tb_at tk_X8_bits 11 rfl) (by decide) ?_
        refine lv_iand (pc := 15) hx hb (tb_at tk_X8_bits 12 rfl) ?_
        refine lv_iadd (pc := 16) hx hb (tb_at tk_X8_bits 13 rfl) ?_
        refine lv_istore_n (pc := 17) (lv' := [(1, .int (y1_l4 + ((x0 >>> (y2_l4 &&& 31)) &&& 1))), (0, .int x0), (2, .int y2_l4)]) hx hb (tb_at tk_X8_bits 14 rfl) rfl hl (by decide) rfl (fun ls hl => ?_)
        refine lv_iinc (pc := 18) (v := y2_l4 + 1) (lv' := [(2, .int (y2_l4 + 1)), (1, .int (y1_l4 + ((x0 >>> (y2_l4 &&& 31)) &&& 1))), (0, .int x0)]) hx hb (tb_at tk_X8_bits 15 rfl) hl (k := 2) rfl rfl (by decide) rfl (fun ls hl => ?_)
        refine lv_goto (pc := 21) (tgt := 4) hx hb (tb_at tk_X8_bits 16 rfl) (by decide) ?_
        exact ih4 (y1_l4 + ((x0 >>> (y2_l4 &&& 31)) &&& 1)) (y2_l4 + 1) _ _ _ h hW hS (lv_sub hl [2, 1, 0] rfl)
  exact w4 N 0 0 _ _ _ h hW hS (lv_sub hl [2, 1, 0] rfl)
def f_X8_isPerson {ρ : Type} (N : Nat) (z_people : Int32) (x1 : Int32) (k : Int32 → Option ρ) : Option ρ := f_X8_in N x1 0 (z_people - 1) (fun r8 => ck (isZ r8) (k r8))
abbrev w_X8_isPerson (cI cZ cQ cW : ClassId) (z_o : Nat) (z_weight_a : Nat) (z_wants_a : Nat) (z_wantsMany_a : Nat) (z_st_a : Nat) (z_was_a : Nat) (z_images_a : Nat) (z_isKept_a : Nat) (z_told_a : Nat) (z_text_a : Nat) (z_saidWeight_a : Nat) (z_saidNights_a : Nat) (z_saidWants_a : Nat) (z_saidMany_a : Nat) (z_now_a : Nat) (z_gave_a : Nat) (z_at_a : Nat) (z_way_a : Nat) (z_bestWay_a : Nat) (z_made_a : Nat) (z_people : Int32) (z_known : Int32) (z_toldMany : Int32) (z_trace : Int64) (z_texted : Int32) (z_cursor : Int32) (z_start : Int32) (z_token : Int32) (z_number : Int32) (z_isWrong : Int32) (z_items : Int32) (z_saidPeople : Int32) (z_saidLaw : Int32) (z_ringed : Int32) (z_lumps : Int32) : va_W := [(z_o, .inr (8, [.int z_people, .ref z_weight_a, .ref z_wants_a, .ref z_wantsMany_a, .ref z_st_a, .ref z_was_a, .int z_known, .ref z_images_a, .ref z_isKept_a, .int z_toldMany, .ref z_told_a, .long z_trace, .ref z_text_a, .int z_texted, .int z_cursor, .int z_start, .int z_token, .int z_number, .int z_isWrong, .int z_items, .int z_saidPeople, .ref z_saidWeight_a, .ref z_saidNights_a, .ref z_saidWants_a, .ref z_saidMany_a, .int z_saidLaw, .ref z_now_a, .ref z_gave_a, .ref z_at_a, .int z_ringed, .int z_lumps, .ref z_way_a, .ref z_bestWay_a, .ref z_made_a]))]
abbrev rm_X8_isPerson : Room := { frames := 1, cells := 0, slots := 0, locals := 22 }
set_option maxHeartbeats 4000000 in
set_option maxRecDepth 100000 in
theorem c_X8_isPerson (l : Launch) (dC : Nat → ClassId) (dI : Nat → Nat → Nat) (cI cZ cQ cW : ClassId) (z_o : Nat) (z_weight_a : Nat) (z_wants_a : Nat) (z_wantsMany_a : Nat) (z_st_a : Nat) (z_was_a : Nat) (z_images_a : Nat) (z_isKept_a : Nat) (z_told_a : Nat) (z_text_a : Nat) (z_saidWeight_a : Nat) (z_saidNights_a : Nat) (z_saidWants_a : Nat) (z_saidMany_a : Nat) (z_now_a : Nat) (z_gave_a : Nat) (z_at_a : Nat) (z_way_a : Nat) (z_bestWay_a : Nat) (z_made_a : Nat) (z_people : Int32) (z_known : Int32) (z_toldMany : Int32) (z_trace : Int64) (z_texted : Int32) (z_cursor : Int32) (z_start : Int32) (z_token : Int32) (z_number : Int32) (z_isWrong : Int32) (z_items : Int32) (z_saidPeople : Int32) (z_saidLaw : Int32) (z_ringed : Int32) (z_lumps : Int32) (x1 : Int32) {ρ : Type} (N : Nat) (k : Int32 → Option ρ) (res : ρ) (h : f_X8_isPerson N z_people x1 k = some res) : Ci l yX8_isPerson (WS yX8_isPerson cX8_isPerson 2 (some .boolean)) rm_X8_isPerson (dC, dI) (tysG cI cZ cQ cW) E0 [.ref z_o, .int x1] (w_X8_isPerson cI cZ cQ cW z_o z_weight_a z_wants_a z_wantsMany_a z_st_a z_was_a z_images_a z_isKept_a z_told_a z_text_a z_saidWeight_a z_saidNights_a z_saidWants_a z_saidMany_a z_now_a z_gave_a z_at_a z_way_a z_bestWay_a z_made_a z_people z_known z_toldMany z_trace z_texted z_cursor z_start z_token z_number z_isWrong z_items z_saidPeople z_saidLaw z_ringed z_lumps) (fun (_ : Unit) => (w_X8_isPerson cI cZ cQ cW z_o z_weight_a z_wants_a z_wantsMany_a z_st_a z_was_a z_images_a z_isKept_a z_told_a z_text_a z_saidWeight_a z_saidNights_a z_saidWants_a z_saidMany_a z_now_a z_gave_a z_at_a z_way_a z_bestWay_a z_made_a z_people z_known z_toldMany z_trace z_texted z_cursor z_start z_token z_number z_isWrong z_items z_saidPeople z_saidLaw z_ringed z_lumps)) (fun r _ => k r = some res) := by
  refine Ci.of (cc := cX8_isPerson) (n := 2) (by decide +kernel) (Nat.le_of_ble_eq_true rfl) ?_
  intro p e s m args below meth c A ls Q B hW hE hS hl hQ
  have hx := B.1
  have hb := B.2.1
  have hl : lv_has ls 2 [(0, .ref z_o), (1, .int x1)] := hl
  unfold f_X8_isPerson at h
  refine lv_iload_n (pc := 0) hx hb (tb_at tk_X8_isPerson 0 rfl) rfl (lv_at hl 1 rfl) ?_
  refine lv_iconst (pc := 1) (v := 0) hx hb (tb_at tk_X8_isPerson 1 rfl) (by decide) ?_
  refine lv_aload_n (pc := 2) hx hb (tb_at tk_X8_isPerson 2 rfl) rfl (lv_at hl 0 rfl) ?_
  refine k_get (pc := 3) (v := .int z_people) (T := TX8) B inG8 hW 0 rfl rfl 0 (by decide) q_f_X8_68 rfl rfl (tb_at tk_X8_isPerson 3 rfl) ?_
  refine lv_iconst (pc := 6) (v := 1) hx hb (tb_at tk_X8_isPerson 4 rfl) (by decide) ?_
  refine lv_isub (pc := 7) hx hb (tb_at tk_X8_isPerson 5 rfl) ?_
  refine k_call0 (pc := 8) B (k_runSi (rest := []) (host := "") B (c_X8_in l dC dI cI cZ cQ cW   x1 0 (z_people - 1) N _ res h) E0_st (fun _ _ _ => trivial) q_c_X8_in q_m_X8_72 q_t_X8_in q_n_X8 hd_X8_in ⟨rfl, rfl⟩ ⟨Nat.le_of_ble_eq_true rfl, Nat.le_of_ble_eq_true rfl⟩ hW [] rfl (by decide +kernel) rfl hl.1 rfl (Nat.le_of_ble_eq_true rfl) (tb_at tk_X8_isPerson 6 rfl) ⟨Nat.zero_le _, Nat.zero_le _⟩) hW hS (fun r8 u H locs h hW hS => ?_)
  have zz := ck_l h
  have h := ck_r h
  exact hQ r8 () _ _ _ 11 (isZ_n zz) h hW hS (tb_at tk_X8_isPerson 7 rfl)
def f_X8_copy_l3 {ρ : Type} (x1 : Int32) (e_c : Nat → Int32) (x3 : Int32) (e_n : Nat) (d_n : Nat) (k : (Nat → Int32) → Option ρ) : Nat → Int32 → (Nat → Int32) → Option ρ
  | 0, _, _ => none
  | n3 + 1, y4_l3, d_c_l3 => if 25 ≤ y4_l3 then (k d_c_l3) else (ck (ivi (x3 + y4_l3) e_n) (ck (ivi (x1 + y4_l3) d_n) ((f_X8_copy_l3 x1 e_c x3 e_n d_n k n3) (y4_l3 + 1) (upd d_c_l3 (x1 + y4_l3).toNatClampNeg (e_c (x3 + y4_l3).toNatClampNeg)))))
def f_X8_copy {ρ : Type} (N : Nat) (e_c : Nat → Int32) (d_c : Nat → Int32) (e_n : Nat) (d_n : Nat) (x1 : Int32) (x3 : Int32) (k : (Nat → Int32) → Option ρ) : Option ρ := f_X8_copy_l3 x1 e_c x3 e_n d_n k N 0 d_c
abbrev w_X8_copy (cI cZ cQ cW : ClassId) (e_a : Nat) (e_n : Nat) (d_a : Nat) (d_n : Nat) (e_c : Nat → Int32) (d_c : Nat → Int32) : va_W := [(e_a, .inl (cI, e_n, .inl e_c)), (d_a, .inl (cI, d_n, .inl d_c))]
abbrev rm_X8_copy : Room := { frames := 0, cells := 0, slots := 0, locals := 0 }
set_option maxHeartbeats 4000000 in
set_option maxRecDepth 100000 in
theorem c_X8_copy (l : Launch) (dC : Nat → ClassId) (dI : Nat → Nat → Nat) (cI cZ cQ cW : ClassId) (e_a : Nat) (e_n : Nat) (d_a : Nat) (d_n : Nat) (e_c : Nat → Int32) (d_c : Nat → Int32) (x1 : Int32) (x3 : Int32) {ρ : Type} (N : Nat) (k : (Nat → Int32) → Option ρ) (res : ρ) (h : f_X8_copy N e_c d_c e_n d_n x1 x3 k = some res) : Cv l yX8_copy (WS yX8_copy cX8_copy 5 none) rm_X8_copy (dC, dI) (tysG cI cZ cQ cW) E0 [.ref d_a, .int x1, .ref e_a, .int x3] (w_X8_copy cI cZ cQ cW e_a e_n d_a d_n e_c d_c) (fun (u : (Nat → Int32)) => (w_X8_copy cI cZ cQ cW e_a e_n d_a d_n e_c u)) (fun u => k u = some res) := by
  refine Cv.of (cc := cX8_copy) (n := 5) (by decide +kernel) (Nat.le_of_ble_eq_true rfl) ?_
  intro p e s m args below meth c A ls Q B hW hE hS hl hQ
  have hx := B.1
  have hb := B.2.1
  have hl : lv_has ls 5 [(0, .ref d_a), (1, .int x1), (2, .ref e_a), (3, .int x3)] := hl
  unfold f_X8_copy at h
  refine lv_iconst (pc := 0) (v := 0) hx hb (tb_at tk_X8_copy 0 rfl) (by decide) ?_
  refine lv_istore (pc := 1) (lv' := [(4, .int 0), (0, .ref d_a), (1, .int x1), (2, .ref e_a), (3, .int x3)]) hx hb (tb_at tk_X8_copy 1 rfl) hl (by decide) rfl (fun ls hl => ?_)
  have w3 : ∀ (n : Nat), ∀ (y4_l3 : Int32) (d_c_l3 : Nat → Int32) (H : Heap) (locs : List Loc) (ls : Array Slot), f_X8_copy_l3 x1 e_c x3 e_n d_n k n y4_l3 d_c_l3 = some res → PD (dC, dI) A (w_X8_copy cI cZ cQ cW e_a e_n d_a d_n e_c d_c_l3) H → va_S A s.heap H locs → lv_has ls 5 [(0, .ref d_a), (1, .int x1), (2, .ref e_a), (3, .int x3), (4, .int y4_l3)] → W p l e rm_X8_copy s m args below meth c H locs 0 0 Q (F0 m 3 ls []) := by
    intro n
    induction n with
    | zero => intro y4_l3 d_c_l3 H locs ls h; exact no_n h
    | succ n3 ih3 =>
      intro y4_l3 d_c_l3 H locs ls h hW hS hl
      rw [f_X8_copy_l3] at h
      refine lv_iload (pc := 3) hx hb (tb_at tk_X8_copy 2 rfl) (lv_at hl 4 rfl) ?_
      refine lv_bipush (pc := 5) (v := 25) hx hb (tb_at tk_X8_copy 3 rfl) (by decide) ?_
      refine lv_icmp_ge (pc := 7) (tgt := 28) hx hb (tb_at tk_X8_copy 4 rfl) (by decide) (fun cc => ?_) (fun cc => ?_)
      · have h := it_t cc h
        exact hQ (d_c_l3) _ _ _ 28 h hW hS (tb_at tk_X8_copy 17 rfl)
      · have h := it_f cc h
        refine lv_aload_n (pc := 10) hx hb (tb_at tk_X8_copy 5 rfl) rfl (lv_at hl 0 rfl) ?_
        refine lv_iload_n (pc := 11) hx hb (tb_at tk_X8_copy 6 rfl) rfl (lv_at hl 1 rfl) ?_
        refine lv_iload (pc := 12) hx hb (tb_at tk_X8_copy 7 rfl) (lv_at hl 4 rfl) ?_
        refine lv_iadd (pc := 14) hx hb (tb_at tk_X8_copy 8 rfl) ?_
        refine lv_aload_n (pc := 15) hx hb (tb_at tk_X8_copy 9 rfl) rfl (lv_at hl 2 rfl) ?_
        refine lv_iload_n (pc := 16) hx hb (tb_at tk_X8_copy 10 rfl) rfl (lv_at hl 3 rfl) ?_
        refine lv_iload (pc := 17) hx hb (tb_at tk_X8_copy 11 rfl) (lv_at hl 4 rfl) ?_
        refine lv_iadd (pc := 19) hx hb (tb_at tk_X8_copy 12 rfl) ?_
        have ii := ivi_in (ck_l h)
        have h := ck_r h
        refine k_iald (pc := 20) B hW 0 0 rfl rfl ii (tb_at tk_X8_copy 13 rfl) ?_
        have ii := ivi_in (ck_l h)
        have h := ck_r h
        refine k_iast (pc := 21) B hW hS 1 0 rfl rfl ii (tb_at tk_X8_copy 14 rfl) (w_X8_copy cI cZ cQ cW e_a e_n d_a d_n e_c (upd d_c_l3 (x1 + y4_l3).toNatClampNeg (e_c (x3 + y4_l3).toNatClampNeg))) rfl (fun H locs hW hS => ?_)
        refine lv_iinc (pc := 22) (v := y4_l3 + 1) (lv' := [(4, .int (y4_l3 + 1)), (0, .ref d_a), (1, .int x1), (2, .ref e_a), (3, .int x3)]) hx hb (tb_at tk_X8_copy 15 rfl) hl (k := 4) rfl rfl (by decide) rfl (fun ls hl => ?_)
        refine lv_goto (pc := 25) (tgt := 3) hx hb (tb_at tk_X8_copy 16 rfl) (by decide) ?_
        exact ih3 (y4_l3 + 1) (upd d_c_l3 (x1 + y4_l3).toNatClampNeg (e_c (x3 + y4_l3).toNatClampNeg)) _ _ _ h hW hS (lv_sub hl [1, 2, 3, 4, 0] rfl)
  exact w3 N 0 d_c _ _ _ h hW hS (lv_sub hl [1, 2, 3, 4, 0] rfl)
def f_X8_type {ρ : Type} (N : Nat) (z_texted : Int32) (z_text : Nat → Int32) (x1 : Int32) (k : Int32 → Int32 → (Nat → Int32) → Option ρ) : Option ρ := f_X8_in N x1 0 255 (fun r5 => if r5 = 0 then (k (-1) z_texted z_text) else (if z_texted = 150 then (k (-3) z_texted z_text) else (ck (ivi z_texted 150) (k (z_texted + 1) (z_texted + 1) (upd z_text (z_texted).toNatClampNeg x1)))))
abbrev w_X8_type (cI cZ cQ cW : ClassId) (z_o : Nat) (z_weight_a : Nat) (z_wants_a : Nat) (z_wantsMany_a : Nat) (z_st_a : Nat) (z_was_a : Nat) (z_images_a : Nat) (z_isKept_a : Nat) (z_told_a : Nat) (z_text_a : Nat) (z_saidWeight_a : Nat) (z_saidNights_a : Nat) (z_saidWants_a : Nat) (z_saidMany_a : Nat) (z_now_a : Nat) (z_gave_a : Nat) (z_at_a : Nat) (z_way_a : Nat) (z_bestWay_a : Nat) (z_made_a : Nat) (z_people : Int32) (z_known : Int32) (z_toldMany : Int32) (z_trace : Int64) (z_texted : Int32) (z_cursor : Int32) (z_start : Int32) (z_token : Int32) (z_number : Int32) (z_isWrong : Int32) (z_items : Int32) (z_saidPeople : Int32) (z_saidLaw : Int32) (z_ringed : Int32) (z_lumps : Int32) (z_text : Nat → Int32) : va_W := [(z_o, .inr (8, [.int z_people, .ref z_weight_a, .ref z_wants_a, .ref z_wantsMany_a, .ref z_st_a, .ref z_was_a, .int z_known, .ref z_images_a, .ref z_isKept_a, .int z_toldMany, .ref z_told_a, .long z_trace, .ref z_text_a, .int z_texted, .int z_cursor, .int z_start, .int z_token, .int z_number, .int z_isWrong, .int z_items, .int z_saidPeople, .ref z_saidWeight_a, .ref z_saidNights_a, .ref z_saidWants_a, .ref z_saidMany_a, .int z_saidLaw, .ref z_now_a, .ref z_gave_a, .ref z_at_a, .int z_ringed, .int z_lumps, .ref z_way_a, .ref z_bestWay_a, .ref z_made_a])), (z_text_a, .inl (cI, 150, .inl z_text))]
abbrev rm_X8_type : Room := { frames := 1, cells := 0, slots := 0, locals := 22 }
set_option maxHeartbeats 4000000 in
set_option maxRecDepth 100000 in
theorem c_X8_type (l : Launch) (dC : Nat → ClassId) (dI : Nat → Nat → Nat) (cI cZ cQ cW : ClassId) (z_o : Nat) (z_weight_a : Nat) (z_wants_a : Nat) (z_wantsMany_a : Nat) (z_st_a : Nat) (z_was_a : Nat) (z_images_a : Nat) (z_isKept_a : Nat) (z_told_a : Nat) (z_text_a : Nat) (z_saidWeight_a : Nat) (z_saidNights_a : Nat) (z_saidWants_a : Nat) (z_saidMany_a : Nat) (z_now_a : Nat) (z_gave_a : Nat) (z_at_a : Nat) (z_way_a : Nat) (z_bestWay_a : Nat) (z_made_a : Nat) (z_people : Int32) (z_known : Int32) (z_toldMany : Int32) (z_trace : Int64) (z_texted : Int32) (z_cursor : Int32) (z_start : Int32) (z_token : Int32) (z_number : Int32) (z_isWrong : Int32) (z_items : Int32) (z_saidPeople : Int32) (z_saidLaw : Int32) (z_ringed : Int32) (z_lumps : Int32) (z_text : Nat → Int32) (x1 : Int32) {ρ : Type} (N : Nat) (k : Int32 → Int32 → (Nat → Int32) → Option ρ) (res : ρ) (h : f_X8_type N z_texted z_text x1 k = some res) : Ci l yX8_type (WS yX8_type cX8_type 2 (some .int)) rm_X8_type (dC, dI) (tysG cI cZ cQ cW) E0 [.ref z_o, .int x1] (w_X8_type cI cZ cQ cW z_o z_weight_a z_wants_a z_wantsMany_a z_st_a z_was_a z_images_a z_isKept_a z_told_a z_text_a z_saidWeight_a z_saidNights_a z_saidWants_a z_saidMany_a z_now_a z_gave_a z_at_a z_way_a z_bestWay_a z_made_a z_people z_known z_toldMany z_trace z_texted z_cursor z_start z_token z_number z_isWrong z_items z_saidPeople z_saidLaw z_ringed z_lumps z_text) (fun (u : Int32 × (Nat → Int32)) => (w_X8_type cI cZ cQ cW z_o z_weight_a z_wants_a z_wantsMany_a z_st_a z_was_a z_images_a z_isKept_a z_told_a z_text_a z_saidWeight_a z_saidNights_a z_saidWants_a z_saidMany_a z_now_a z_gave_a z_at_a z_way_a z_bestWay_a z_made_a z_people z_known z_toldMany z_trace u.1 z_cursor z_start z_token z_number z_isWrong z_items z_saidPeople z_saidLaw z_ringed z_lumps u.2)) (fun r u => k r u.1 u.2 = some res) := by
  refine Ci.of (cc := cX8_type) (n := 2) (by decide +kernel) (Nat.le_of_ble_eq_true rfl) ?_
  intro p e s m args below meth c A ls Q B hW hE hS hl hQ
  have hx := B.1
  have hb := B.2.1
  have hl : lv_has ls 2 [(0, .ref z_o), (1, .int x1)] := hl
  unfold f_X8_type at h
  refine lv_iload_n (pc := 0) hx hb (tb_at tk_X8_type 0 rfl) rfl (lv_at hl 1 rfl) ?_
  refine lv_iconst (pc := 1) (v := 0) hx hb (tb_at tk_X8_type 1 rfl) (by decide) ?_
  refine lv_sipush (pc := 2) (v := 255) hx hb (tb_at tk_X8_type 2 rfl) (by decide) ?_
  refine k_call0 (pc := 5) B (k_runSi (rest := []) (host := "") B (c_X8_in l dC dI cI cZ cQ cW   x1 0 255 N _ res h) E0_st (fun _ _ _ => trivial) q_c_X8_in q_m_X8_72 q_t_X8_in q_n_X8 hd_X8_in ⟨rfl, rfl⟩ ⟨Nat.le_of_ble_eq_true rfl, Nat.le_of_ble_eq_true rfl⟩ hW [] rfl (by decide +kernel) rfl hl.1 rfl (Nat.le_of_ble_eq_true rfl) (tb_at tk_X8_type 3 rfl) ⟨Nat.zero_le _, Nat.zero_le _⟩) hW hS (fun r5 u H locs h hW hS => ?_)
  refine lv_if_ne (pc := 8) (tgt := 13) hx hb (tb_at tk_X8_type 4 rfl) (by decide) (fun cc => ?_) (fun cc => ?_)
  · have h := it_f cc h
    refine lv_aload_n (pc := 13) hx hb (tb_at tk_X8_type 7 rfl) rfl (lv_at hl 0 rfl) ?_
    refine k_get (pc := 14) (v := .int z_texted) (T := TX8) B inG8 hW 0 rfl rfl 13 (by decide) q_f_X8_76 rfl rfl (tb_at tk_X8_type 8 rfl) ?_
    refine lv_sipush (pc := 17) (v := 150) hx hb (tb_at tk_X8_type 9 rfl) (by decide) ?_
    refine lv_icmp_ne (pc := 20) (tgt := 26) hx hb (tb_at tk_X8_type 10 rfl) (by decide) (fun cc => ?_) (fun cc => ?_)
    · have h := it_f cc h
      refine lv_aload_n (pc := 26) hx hb (tb_at tk_X8_type 13 rfl) rfl (lv_at hl 0 rfl) ?_
      refine k_get (pc := 27) (v := .ref z_text_a) (T := TX8) B inG8 hW 0 rfl rfl 12 (by decide) q_f_X8_35 rfl rfl (tb_at tk_X8_type 14 rfl) ?_
      refine lv_aload_n (pc := 30) hx hb (tb_at tk_X8_type 15 rfl) rfl (lv_at hl 0 rfl) ?_
      refine k_get (pc := 31) (v := .int z_texted) (T := TX8) B inG8 hW 0 rfl rfl 13 (by decide) q_f_X8_76 rfl rfl (tb_at tk_X8_type 16 rfl) ?_
      refine lv_iload_n (pc := 34) hx hb (tb_at tk_X8_type 17 rfl) rfl (lv_at hl 1 rfl) ?_
      have ii := ivi_in (ck_l h)
      have h := ck_r h
      refine k_iast (pc := 35) B hW hS 1 0 rfl rfl ii (tb_at tk_X8_type 18 rfl) (w_X8_type cI cZ cQ cW z_o z_weight_a z_wants_a z_wantsMany_a z_st_a z_was_a z_images_a z_isKept_a z_told_a z_text_a z_saidWeight_a z_saidNights_a z_saidWants_a z_saidMany_a z_now_a z_gave_a z_at_a z_way_a z_bestWay_a z_made_a z_people z_known z_toldMany z_trace z_texted z_cursor z_start z_token z_number z_isWrong z_items z_saidPeople z_saidLaw z_ringed z_lumps (upd z_text (z_texted).toNatClampNeg x1)) rfl (fun H locs hW hS => ?_)
      refine lv_aload_n (pc := 36) hx hb (tb_at tk_X8_type 19 rfl) rfl (lv_at hl 0 rfl) ?_
      refine lv_dup (pc := 37) hx hb (tb_at tk_X8_type 20 rfl) rfl ?_
      refine k_get (pc := 38) (v := .int z_texted) (T := TX8) B inG8 hW 0 rfl rfl 13 (by decide) q_f_X8_76 rfl rfl (tb_at tk_X8_type 21 rfl) ?_
      refine lv_iconst (pc := 41) (v := 1) hx hb (tb_at tk_X8_type 22 rfl) (by decide) ?_
      refine lv_iadd (pc := 42) hx hb (tb_at tk_X8_type 23 rfl) ?_
      refine k_put (pc := 43) (T := TX8) B inG8 tyX8 tyX8_ok nmX8 hW hS 0 rfl rfl 13 (by decide) q_f_X8_76 rfl rfl rfl rfl (Nat.le_of_ble_eq_true rfl) (tb_at tk_X8_type 24 rfl) (w_X8_type cI cZ cQ cW z_o z_weight_a z_wants_a z_wantsMany_a z_st_a z_was_a z_images_a z_isKept_a z_told_a z_text_a z_saidWeight_a z_saidNights_a z_saidWants_a z_saidMany_a z_now_a z_gave_a z_at_a z_way_a z_bestWay_a z_made_a z_people z_known z_toldMany z_trace (z_texted + 1) z_cursor z_start z_token z_number z_isWrong z_items z_saidPeople z_saidLaw z_ringed z_lumps (upd z_text (z_texted).toNatClampNeg x1)) rfl (fun H locs hW hS => ?_)
      refine lv_aload_n (pc := 46) hx hb (tb_at tk_X8_type 25 rfl) rfl (lv_at hl 0 rfl) ?_
      refine k_get (pc := 47) (v := .int (z_texted + 1)) (T := TX8) B inG8 hW 0 rfl rfl 13 (by decide) q_f_X8_76 rfl rfl (tb_at tk_X8_type 26 rfl) ?_
      exact hQ (z_texted + 1) (z_texted + 1, upd z_text (z_texted).toNatClampNeg x1) _ _ _ 50 rfl h hW hS (tb_at tk_X8_type 27 rfl)
    · have h := it_t cc h
      refine lv_bipush (pc := 23) (v := (-3)) hx hb (tb_at tk_X8_type 11 rfl) (by decide) ?_
      exact hQ (-3) (z_texted, z_text) _ _ _ 25 rfl h hW hS (tb_at tk_X8_type 12 rfl)
  · have h := it_t cc h
    refine lv_iconst (pc := 11) (v := (-1)) hx hb (tb_at tk_X8_type 5 rfl) (by decide) ?_
    exact hQ (-1) (z_texted, z_text) _ _ _ 12 rfl h hW hS (tb_at tk_X8_type 6 rfl)
def f_X8_clear {ρ : Type} (N : Nat) (z_texted : Int32) (k : Int32 → Int32 → Option ρ) : Option ρ := k z_texted 0
abbrev w_X8_clear (cI cZ cQ cW : ClassId) (z_o : Nat) (z_weight_a : Nat) (z_wants_a : Nat) (z_wantsMany_a : Nat) (z_st_a : Nat) (z_was_a : Nat) (z_images_a : Nat) (z_isKept_a : Nat) (z_told_a : Nat) (z_text_a : Nat) (z_saidWeight_a : Nat) (z_saidNights_a : Nat) (z_saidWants_a : Nat) (z_saidMany_a : Nat) (z_now_a : Nat) (z_gave_a : Nat) (z_at_a : Nat) (z_way_a : Nat) (z_bestWay_a : Nat) (z_made_a : Nat) (z_people : Int32) (z_known : Int32) (z_toldMany : Int32) (z_trace : Int64) (z_texted : Int32) (z_cursor : Int32) (z_start : Int32) (z_token : Int32) (z_number : Int32) (z_isWrong : Int32) (z_items : Int32) (z_saidPeople : Int32) (z_saidLaw : Int32) (z_ringed : Int32) (z_lumps : Int32) : va_W := [(z_o, .inr (8, [.int z_people, .ref z_weight_a, .ref z_wants_a, .ref z_wantsMany_a, .ref z_st_a, .ref z_was_a, .int z_known, .ref z_images_a, .ref z_isKept_a, .int z_toldMany, .ref z_told_a, .long z_trace, .ref z_text_a, .int z_texted, .int z_cursor, .int z_start, .int z_token, .int z_number, .int z_isWrong, .int z_items, .int z_saidPeople, .ref z_saidWeight_a, .ref z_saidNights_a, .ref z_saidWants_a, .ref z_saidMany_a, .int z_saidLaw, .ref z_now_a, .ref z_gave_a, .ref z_at_a, .int z_ringed, .int z_lumps, .ref z_way_a, .ref z_bestWay_a, .ref z_made_a]))]
abbrev rm_X8_clear : Room := { frames := 0, cells := 0, slots := 0, locals := 0 }
set_option maxHeartbeats 4000000 in
set_option maxRecDepth 100000 in
theorem c_X8_clear (l : Launch) (dC : Nat → ClassId) (dI : Nat → Nat → Nat) (cI cZ cQ cW : ClassId) (z_o : Nat) (z_weight_a : Nat) (z_wants_a : Nat) (z_wantsMany_a : Nat) (z_st_a : Nat) (z_was_a : Nat) (z_images_a : Nat) (z_isKept_a : Nat) (z_told_a : Nat) (z_text_a : Nat) (z_saidWeight_a : Nat) (z_saidNights_a : Nat) (z_saidWants_a : Nat) (z_saidMany_a : Nat) (z_now_a : Nat) (z_gave_a : Nat) (z_at_a : Nat) (z_way_a : Nat) (z_bestWay_a : Nat) (z_made_a : Nat) (z_people : Int32) (z_known : Int32) (z_toldMany : Int32) (z_trace : Int64) (z_texted : Int32) (z_cursor : Int32) (z_start : Int32) (z_token : Int32) (z_number : Int32) (z_isWrong : Int32) (z_items : Int32) (z_saidPeople : Int32) (z_saidLaw : Int32) (z_ringed : Int32) (z_lumps : Int32) {ρ : Type} (N : Nat) (k : Int32 → Int32 → Option ρ) (res : ρ) (h : f_X8_clear N z_texted k = some res) : Ci l yX8_clear (WS yX8_clear cX8_clear 2 (some .int)) rm_X8_clear (dC, dI) (tysG cI cZ cQ cW) E0 [.ref z_o] (w_X8_clear cI cZ cQ cW z_o z_weight_a z_wants_a z_wantsMany_a z_st_a z_was_a z_images_a z_isKept_a z_told_a z_text_a z_saidWeight_a z_saidNights_a z_saidWants_a z_saidMany_a z_now_a z_gave_a z_at_a z_way_a z_bestWay_a z_made_a z_people z_known z_toldMany z_trace z_texted z_cursor z_start z_token z_number z_isWrong z_items z_saidPeople z_saidLaw z_ringed z_lumps) (fun (u : Int32) => (w_X8_clear cI cZ cQ cW z_o z_weight_a z_wants_a z_wantsMany_a z_st_a z_was_a z_images_a z_isKept_a z_told_a z_text_a z_saidWeight_a z_saidNights_a z_saidWants_a z_saidMany_a z_now_a z_gave_a z_at_a z_way_a z_bestWay_a z_made_a z_people z_known z_toldMany z_trace u z_cursor z_start z_token z_number z_isWrong z_items z_saidPeople z_saidLaw z_ringed z_lumps)) (fun r u => k r u = some res) := by
  refine Ci.of (cc := cX8_clear) (n := 2) (by decide +kernel) (Nat.le_of_ble_eq_true rfl) ?_
  intro p e s m args below meth c A ls Q B hW hE hS hl hQ
  have hx := B.1
  have hb := B.2.1
  have hl : lv_has ls 2 [(0, .ref z_o)] := hl
  unfold f_X8_clear at h
  refine lv_aload_n (pc := 0) hx hb (tb_at tk_X8_clear 0 rfl) rfl (lv_at hl 0 rfl) ?_
  refine k_get (pc := 1) (v := .int z_texted) (T := TX8) B inG8 hW 0 rfl rfl 13 (by decide) q_f_X8_76 rfl rfl (tb_at tk_X8_clear 1 rfl) ?_
  refine lv_istore_n (pc := 4) (lv' := [(1, .int z_texted), (0, .ref z_o)]) hx hb (tb_at tk_X8_clear 2 rfl) rfl hl (by decide) rfl (fun ls hl => ?_)
  refine lv_aload_n (pc := 5) hx hb (tb_at tk_X8_clear 3 rfl) rfl (lv_at hl 1 rfl) ?_
  refine lv_iconst (pc := 6) (v := 0) hx hb (tb_at tk_X8_clear 4 rfl) (by decide) ?_
  refine k_put (pc := 7) (T := TX8) B inG8 tyX8 tyX8_ok nmX8 hW hS 0 rfl rfl 13 (by decide) q_f_X8_76 rfl rfl rfl rfl (Nat.le_of_ble_eq_true rfl) (tb_at tk_X8_clear 5 rfl) (w_X8_clear cI cZ cQ cW z_o z_weight_a z_wants_a z_wantsMany_a z_st_a z_was_a z_images_a z_isKept_a z_told_a z_text_a z_saidWeight_a z_saidNights_a z_saidWants_a z_saidMany_a z_now_a z_gave_a z_at_a z_way_a z_bestWay_a z_made_a z_people z_known z_toldMany z_trace 0 z_cursor z_start z_token z_number z_isWrong z_items z_saidPeople z_saidLaw z_ringed z_lumps) rfl (fun H locs hW hS => ?_)
  refine lv_iload_n (pc := 10) hx hb (tb_at tk_X8_clear 6 rfl) rfl (lv_at hl 0 rfl) ?_
  exact hQ z_texted (0) _ _ _ 11 rfl h hW hS (tb_at tk_X8_clear 7 rfl)
def f_X8_letterAt {ρ : Type} (N : Nat) (z_texted : Int32) (z_text : Nat → Int32) (x1 : Int32) (k : Int32 → Option ρ) : Option ρ := if z_texted ≤ x1 then (k (-1)) else (ck (ivi x1 150) (k (z_text (x1).toNatClampNeg)))
abbrev w_X8_letterAt (cI cZ cQ cW : ClassId) (z_o : Nat) (z_weight_a : Nat) (z_wants_a : Nat) (z_wantsMany_a : Nat) (z_st_a : Nat) (z_was_a : Nat) (z_images_a : Nat) (z_isKept_a : Nat) (z_told_a : Nat) (z_text_a : Nat) (z_saidWeight_a : Nat) (z_saidNights_a : Nat) (z_saidWants_a : Nat) (z_saidMany_a : Nat) (z_now_a : Nat) (z_gave_a : Nat) (z_at_a : Nat) (z_way_a : Nat) (z_bestWay_a : Nat) (z_made_a : Nat) (z_people : Int32) (z_known : Int32) (z_toldMany : Int32) (z_trace : Int64) (z_texted : Int32) (z_cursor : Int32) (z_start : Int32) (z_token : Int32) (z_number : Int32) (z_isWrong : Int32) (z_items : Int32) (z_saidPeople : Int32) (z_saidLaw : Int32) (z_ringed : Int32) (z_lumps : Int32) (z_text : Nat → Int32) : va_W := [(z_o, .inr (8, [.int z_people, .ref z_weight_a, .ref z_wants_a, .ref z_wantsMany_a, .ref z_st_a, .ref z_was_a, .int z_known, .ref z_images_a, .ref z_isKept_a, .int z_toldMany, .ref z_told_a, .long z_trace, .ref z_text_a, .int z_texted, .int z_cursor, .int z_start, .int z_token, .int z_number, .int z_isWrong, .int z_items, .int z_saidPeople, .ref z_saidWeight_a, .ref z_saidNights_a, .ref z_saidWants_a, .ref z_saidMany_a, .int z_saidLaw, .ref z_now_a, .ref z_gave_a, .ref z_at_a, .int z_ringed, .int z_lumps, .ref z_way_a, .ref z_bestWay_a, .ref z_made_a])), (z_text_a, .inl (cI, 150, .inl z_text))]
abbrev rm_X8_letterAt : Room := { frames := 0, cells := 0, slots := 0, locals := 0 }
set_option maxHeartbeats 4000000 in
set_option maxRecDepth 100000 in
theorem c_X8_letterAt (l : Launch) (dC : Nat → ClassId) (dI : Nat → Nat → Nat) (cI cZ cQ cW : ClassId) (z_o : Nat) (z_weight_a : Nat) (z_wants_a : Nat) (z_wantsMany_a : Nat) (z_st_a : Nat) (z_was_a : Nat) (z_images_a : Nat) (z_isKept_a : Nat) (z_told_a : Nat) (z_text_a : Nat) (z_saidWeight_a : Nat) (z_saidNights_a : Nat) (z_saidWants_a : Nat) (z_saidMany_a : Nat) (z_now_a : Nat) (z_gave_a : Nat) (z_at_a : Nat) (z_way_a : Nat) (z_bestWay_a : Nat) (z_made_a : Nat) (z_people : Int32) (z_known : Int32) (z_toldMany : Int32) (z_trace : Int64) (z_texted : Int32) (z_cursor : Int32) (z_start : Int32) (z_token : Int32) (z_number : Int32) (z_isWrong : Int32) (z_items : Int32) (z_saidPeople : Int32) (z_saidLaw : Int32) (z_ringed : Int32) (z_lumps : Int32) (z_text : Nat → Int32) (x1 : Int32) {ρ : Type} (N : Nat) (k : Int32 → Option ρ) (res : ρ) (h : f_X8_letterAt N z_texted z_text x1 k = some res) : Ci l yX8_letterAt (WS yX8_letterAt cX8_letterAt 2 (some .int)) rm_X8_letterAt (dC, dI) (tysG cI cZ cQ cW) E0 [.ref z_o, .int x1] (w_X8_letterAt cI cZ cQ cW z_o z_weight_a z_wants_a z_wantsMany_a z_st_a z_was_a z_images_a z_isKept_a z_told_a z_text_a z_saidWeight_a z_saidNights_a z_saidWants_a z_saidMany_a z_now_a z_gave_a z_at_a z_way_a z_bestWay_a z_made_a z_people z_known z_toldMany z_trace z_texted z_cursor z_start z_token z_number z_isWrong z_items z_saidPeople z_saidLaw z_ringed z_lumps z_text) (fun (_ : Unit) => (w_X8_letterAt cI cZ cQ cW z_o z_weight_a z_wants_a z_wantsMany_a z_st_a z_was_a z_images_a z_isKept_a z_told_a z_text_a z_saidWeight_a z_saidNights_a z_saidWants_a z_saidMany_a z_now_a z_gave_a z_at_a z_way_a z_bestWay_a z_made_a z_people z_known z_toldMany z_trace z_texted z_cursor z_start z_token z_number z_isWrong z_items z_saidPeople z_saidLaw z_ringed z_lumps z_text)) (fun r _ => k r = some res) := by
  refine Ci.of (cc := cX8_letterAt) (n := 2) (by decide +kernel) (Nat.le_of_ble_eq_true rfl) ?_
  intro p e s m args below meth c A ls Q B hW hE hS hl hQ
  have hx := B.1
  have hb := B.2.1
  have hl : lv_has ls 2 [(0, .ref z_o), (1, .int x1)] := hl
  unfold f_X8_letterAt at h
  refine lv_iload_n (pc := 0) hx hb (tb_at tk_X8_letterAt 0 rfl) rfl (lv_at hl 1 rfl) ?_
  refine lv_aload_n (pc := 1) hx hb (tb_at tk_X8_letterAt 1 rfl) rfl (lv_at hl 0 rfl) ?_
  refine k_get (pc := 2) (v := .int z_texted) (T := TX8) B inG8 hW 0 rfl rfl 13 (by decide) q_f_X8_76 rfl rfl (tb_at tk_X8_letterAt 2 rfl) ?_
  refine lv_icmp_ge (pc := 5) (tgt := 17) hx hb (tb_at tk_X8_letterAt 3 rfl) (by decide) (fun cc => ?_) (fun cc => ?_)
  · have h := it_t cc h
    refine lv_iconst (pc := 17) (v := (-1)) hx hb (tb_at tk_X8_letterAt 9 rfl) (by decide) ?_
    exact hQ (-1) () _ _ _ 18 rfl h hW hS (tb_at tk_X8_letterAt 10 rfl)
  · have h := it_f cc h
    refine lv_aload_n (pc := 8) hx hb (tb_at tk_X8_letterAt 4 rfl) rfl (lv_at hl 0 rfl) ?_
    refine k_get (pc := 9) (v := .ref z_text_a) (T := TX8) B inG8 hW 0 rfl rfl 12 (by decide) q_f_X8_35 rfl rfl (tb_at tk_X8_letterAt 5 rfl) ?_
    refine lv_iload_n (pc := 12) hx hb (tb_at tk_X8_letterAt 6 rfl) rfl (lv_at hl 1 rfl) ?_
    have ii := ivi_in (ck_l h)
    have h := ck_r h
    refine k_iald (pc := 13) B hW 1 0 rfl rfl ii (tb_at tk_X8_letterAt 7 rfl) ?_
    refine lv_goto (pc := 14) (tgt := 18) hx hb (tb_at tk_X8_letterAt 8 rfl) (by decide) ?_
    exact hQ (z_text (x1).toNatClampNeg) () _ _ _ 18 rfl h hW hS (tb_at tk_X8_letterAt 10 rfl)
def f_X8_isFigure {ρ : Type} (N : Nat) (x0 : Int32) (k : Int32 → Option ρ) : Option ρ := f_X8_in N x0 48 57 (fun r5 => ck (isZ r5) (k r5))
abbrev rm_X8_isFigure : Room := { frames := 1, cells := 0, slots := 0, locals := 22 }
set_option maxHeartbeats 4000000 in
set_option maxRecDepth 100000 in
theorem c_X8_isFigure (l : Launch) (dC : Nat → ClassId) (dI : Nat → Nat → Nat) (cI cZ cQ cW : ClassId) (x0 : Int32) {ρ : Type} (N : Nat) (k : Int32 → Option ρ) (res : ρ) (h : f_X8_isFigure N x0 k = some res) : Ci l yX8_isFigure (WS yX8_isFigure cX8_isFigure 1 (some .boolean)) rm_X8_isFigure (dC, dI) (tysG cI cZ cQ cW) E0 [.int x0] [] (fun (_ : Unit) => []) (fun r _ => k r = some res) := by
  refine Ci.of (cc := cX8_isFigure) (n := 1) (by decide +kernel) (Nat.le_of_ble_eq_true rfl) ?_
  intro p e s m args below meth c A ls Q B hW hE hS hl hQ
  have hx := B.1
  have hb := B.2.1
  have hl : lv_has ls 1 [(0, .int x0)] := hl
  unfold f_X8_isFigure at h
  refine lv_iload_n (pc := 0) hx hb (tb_at tk_X8_isFigure 0 rfl) rfl (lv_at hl 0 rfl) ?_
  refine lv_bipush (pc := 1) (v := 48) hx hb (tb_at tk_X8_isFigure 1 rfl) (by decide) ?_
  refine lv_bipush (pc := 3) (v := 57) hx hb (tb_at tk_X8_isFigure 2 rfl) (by decide) ?_
  refine k_call0 (pc := 5) B (k_runSi (rest := []) (host := "") B (c_X8_in l dC dI cI cZ cQ cW   x0 48 57 N _ res h) E0_st (fun _ _ _ => trivial) q_c_X8_in q_m_X8_72 q_t_X8_in q_n_X8 hd_X8_in ⟨rfl, rfl⟩ ⟨Nat.le_of_ble_eq_true rfl, Nat.le_of_ble_eq_true rfl⟩ hW [] rfl (by decide +kernel) rfl hl.1 rfl (Nat.le_of_ble_eq_true rfl) (tb_at tk_X8_isFigure 3 rfl) ⟨Nat.zero_le _, Nat.zero_le _⟩) hW hS (fun r5 u H locs h hW hS => ?_)
  have zz := ck_l h
  have h := ck_r h
  exact hQ r5 () _ _ _ 8 (isZ_n zz) h hW hS (tb_at tk_X8_isFigure 4 rfl)
def f_X8_next_j207 {ρ : Type} (z_cursor_e26 : Int32) (r39 : Int32) (k : Int32 → Int32 → Int32 → Int32 → Option ρ) (s1_j207 : Int32) : Option ρ := k (z_cursor_e26 + 1) z_cursor_e26 s1_j207 r39
def f_X8_next_j192 {ρ : Type} (z_cursor_e26 : Int32) (r39 : Int32) (k : Int32 → Int32 → Int32 → Int32 → Option ρ) : Option ρ := f_X8_next_j207 z_cursor_e26 r39 k 1
def f_X8_next_j167 {ρ : Type} (z_cursor_e26 : Int32) (z_cursor_e133 : Int32) (z_number_e133 : Int32) (k : Int32 → Int32 → Int32 → Int32 → Option ρ) (s1_j167 : Int32) : Option ρ := k z_cursor_e133 z_cursor_e26 s1_j167 z_number_e133
def f_X8_next_j162 {ρ : Type} (z_cursor_e26 : Int32) (z_cursor_e133 : Int32) (z_number_e133 : Int32) (k : Int32 → Int32 → Int32 → Int32 → Option ρ) : Option ρ := f_X8_next_j167 z_cursor_e26 z_cursor_e133 z_number_e133 k 4
def f_X8_next_j166 {ρ : Type} (z_cursor_e26 : Int32) (z_cursor_e133 : Int32) (z_number_e133 : Int32) (k : Int32 → Int32 → Int32 → Int32 → Option ρ) : Option ρ := f_X8_next_j167 z_cursor_e26 z_cursor_e133 z_number_e133 k 2
def f_X8_next_e133 {ρ : Type} (z_cursor_e26 : Int32) (r39 : Int32) (k : Int32 → Int32 → Int32 → Int32 → Option ρ) (z_cursor_e133 : Int32) (z_number_e133 : Int32) : Option ρ := if 99 < z_number_e133 then (f_X8_next_j162 z_cursor_e26 z_cursor_e133 z_number_e133 k ) else (if r39 = 48 then (if (z_cursor_e133 - z_cursor_e26) ≤ 1 then (f_X8_next_j166 z_cursor_e26 z_cursor_e133 z_number_e133 k ) else (f_X8_next_j162 z_cursor_e26 z_cursor_e133 z_number_e133 k )) else (f_X8_next_j166 z_cursor_e26 z_cursor_e133 z_number_e133 k ))
def f_X8_next_j117 {ρ : Type} (z_cursor_l67 : Int32) (kb67 : Int32 → Int32 → Option ρ) (s1_j117 : Int32) : Option ρ := kb67 (z_cursor_l67 + 1) s1_j117
def f_X8_next_l67 {ρ : Type} (z_texted : Int32) (z_text : Nat → Int32) (k133 : Int32 → Int32 → Option ρ) (N : Nat) : Nat → Int32 → Int32 → Option ρ
  | 0, _, _ => none
  | n67 + 1, z_cursor_l67, z_number_l67 => f_X8_letterAt N z_texted z_text z_cursor_l67 (fun r72 => f_X8_isFigure N r72 (fun r75 => if r75 = 0 then (k133 z_cursor_l67 z_number_l67) else (if z_number_l67 ≤ 99 then (f_X8_letterAt N z_texted z_text z_cursor_l67 (fun r110 => f_X8_next_j117 z_cursor_l67 (f_X8_next_l67 z_texted z_text k133 N n67) ((((10 : Int32) * z_number_l67) + r110) - 48))) else (f_X8_next_j117 z_cursor_l67 (f_X8_next_l67 z_texted z_text k133 N n67) z_number_l67))))
def f_X8_next_e26 {ρ : Type} (z_texted : Int32) (z_text : Nat → Int32) (k : Int32 → Int32 → Int32 → Int32 → Option ρ) (N : Nat) (z_cursor_e26 : Int32) : Option ρ := f_X8_letterAt N z_texted z_text z_cursor_e26 (fun r39 => if 0 ≤ r39 then (f_X8_isFigure N r39 (fun r61 => if r61 = 0 then (if r39 = 112 then (f_X8_next_j192 z_cursor_e26 r39 k ) else (if r39 = 119 then (f_X8_next_j192 z_cursor_e26 r39 k ) else (if r39 = 108 then (f_X8_next_j192 z_cursor_e26 r39 k ) else (if r39 = 59 then (f_X8_next_j207 z_cursor_e26 r39 k 3) else (f_X8_next_j207 z_cursor_e26 r39 k 4))))) else (f_X8_next_l67 z_texted z_text (fun z_cursor_e133 z_number_e133 => f_X8_next_e133 z_cursor_e26 r39 k z_cursor_e133 z_number_e133) N N z_cursor_e26 0))) else (k z_cursor_e26 z_cursor_e26 0 0))
def f_X8_next_l0 {ρ : Type} (z_texted : Int32) (z_text : Nat → Int32) (k26 : Int32 → Option ρ) (N : Nat) : Nat → Int32 → Option ρ
  | 0, _ => none
  | n0 + 1, z_cursor_l0 => f_X8_letterAt N z_texted z_text z_cursor_l0 (fun r5 => if r5 = 32 then ((f_X8_next_l0 z_texted z_text k26 N n0) (z_cursor_l0 + 1)) else (k26 z_cursor_l0))
def f_X8_next {ρ : Type} (N : Nat) (z_texted : Int32) (z_cursor : Int32) (z_text : Nat → Int32) (k : Int32 → Int32 → Int32 → Int32 → Option ρ) : Option ρ := f_X8_next_l0 z_texted z_text (fun z_cursor_e26 => f_X8_next_e26 z_texted z_text k N z_cursor_e26) N N z_cursor
abbrev w_X8_next (cI cZ cQ cW : ClassId) (z_o : Nat) (z_weight_a : Nat) (z_wants_a : Nat) (z_wantsMany_a : Nat) (z_st_a : Nat) (z_was_a : Nat) (z_images_a : Nat) (z_isKept_a : Nat) (z_told_a : Nat) (z_text_a : Nat) (z_saidWeight_a : Nat) (z_saidNights_a : Nat) (z_saidWants_a : Nat) (z_saidMany_a : Nat) (z_now_a : Nat) (z_gave_a : Nat) (z_at_a : Nat) (z_way_a : Nat) (z_bestWay_a : Nat) (z_made_a : Nat) (z_people : Int32) (z_known : Int32) (z_toldMany : Int32) (z_trace : Int64) (z_texted : Int32) (z_cursor : Int32) (z_start : Int32) (z_token : Int32) (z_number : Int32) (z_isWrong : Int32) (z_items : Int32) (z_saidPeople : Int32) (z_saidLaw : Int32) (z_ringed : Int32) (z_lumps : Int32) (z_text : Nat → Int32) : va_W := [(z_o, .inr (8, [.int z_people, .ref z_weight_a, .ref z_wants_a, .ref z_wantsMany_a, .ref z_st_a, .ref z_was_a, .int z_known, .ref z_images_a, .ref z_isKept_a, .int z_toldMany, .ref z_told_a, .long z_trace, .ref z_text_a, .int z_texted, .int z_cursor, .int z_start, .int z_token, .int z_number, .int z_isWrong, .int z_items, .int z_saidPeople, .ref z_saidWeight_a, .ref z_saidNights_a, .ref z_saidWants_a, .ref z_saidMany_a, .int z_saidLaw, .ref z_now_a, .ref z_gave_a, .ref z_at_a, .int z_ringed, .int z_lumps, .ref z_way_a, .ref z_bestWay_a, .ref z_made_a])), (z_text_a, .inl (cI, 150, .inl z_text))]
abbrev rm_X8_next : Room := { frames := 2, cells := 0, slots := 0, locals := 42 }
set_option maxHeartbeats 4000000 in
set_option maxRecDepth 100000 in
theorem c_X8_next (l : Launch) (dC : Nat → ClassId) (dI : Nat → Nat → Nat) (cI cZ cQ cW : ClassId) (z_o : Nat) (z_weight_a : Nat) (z_wants_a : Nat) (z_wantsMany_a : Nat) (z_st_a : Nat) (z_was_a : Nat) (z_images_a : Nat) (z_isKept_a : Nat) (z_told_a : Nat) (z_text_a : Nat) (z_saidWeight_a : Nat) (z_saidNights_a : Nat) (z_saidWants_a : Nat) (z_saidMany_a : Nat) (z_now_a : Nat) (z_gave_a : Nat) (z_at_a : Nat) (z_way_a : Nat) (z_bestWay_a : Nat) (z_made_a : Nat) (z_people : Int32) (z_known : Int32) (z_toldMany : Int32) (z_trace : Int64) (z_texted : Int32) (z_cursor : Int32) (z_start : Int32) (z_token : Int32) (z_number : Int32) (z_isWrong : Int32) (z_items : Int32) (z_saidPeople : Int32) (z_saidLaw : Int32) (z_ringed : Int32) (z_lumps : Int32) (z_text : Nat → Int32) {ρ : Type} (N : Nat) (k : Int32 → Int32 → Int32 → Int32 → Option ρ) (res : ρ) (h : f_X8_next N z_texted z_cursor z_text k = some res) : Cv l yX8_next (WS yX8_next cX8_next 2 none) rm_X8_next (dC, dI) (tysG cI cZ cQ cW) E0 [.ref z_o] (w_X8_next cI cZ cQ cW z_o z_weight_a z_wants_a z_wantsMany_a z_st_a z_was_a z_images_a z_isKept_a z_told_a z_text_a z_saidWeight_a z_saidNights_a z_saidWants_a z_saidMany_a z_now_a z_gave_a z_at_a z_way_a z_bestWay_a z_made_a z_people z_known z_toldMany z_trace z_texted z_cursor z_start z_token z_number z_isWrong z_items z_saidPeople z_saidLaw z_ringed z_lumps z_text) (fun (u : Int32 × Int32 × Int32 × Int32) => (w_X8_next cI cZ cQ cW z_o z_weight_a z_wants_a z_wantsMany_a z_st_a z_was_a z_images_a z_isKept_a z_told_a z_text_a z_saidWeight_a z_saidNights_a z_saidWants_a z_saidMany_a z_now_a z_gave_a z_at_a z_way_a z_bestWay_a z_made_a z_people z_known z_toldMany z_trace z_texted u.1 u.2.1 u.2.2.1 u.2.2.2 z_isWrong z_items z_saidPeople z_saidLaw z_ringed z_lumps z_text)) (fun u => k u.1 u.2.1 u.2.2.1 u.2.2.2 = some res) := by
  refine Cv.of (cc := cX8_next) (n := 2) (by decide +kernel) (Nat.le_of_ble_eq_true rfl) ?_
  intro p e s m args below meth c A ls Q B hW hE hS hl hQ
  have hx := B.1
  have hb := B.2.1
  have hl : lv_has ls 2 [(0, .ref z_o)] := hl
  unfold f_X8_next at h
  have w26 : ∀ (z_cursor_e26 : Int32) (H : Heap) (locs : List Loc) (ls : Array Slot), f_X8_next_e26 z_texted z_text k N z_cursor_e26 = some res → PD (dC, dI) A (w_X8_next cI cZ cQ cW z_o z_weight_a z_wants_a z_wantsMany_a z_st_a z_was_a z_images_a z_isKept_a z_told_a z_text_a z_saidWeight_a z_saidNights_a z_saidWants_a z_saidMany_a z_now_a z_gave_a z_at_a z_way_a z_bestWay_a z_made_a z_people z_known z_toldMany z_trace z_texted z_cursor_e26 z_start z_token z_number z_isWrong z_items z_saidPeople z_saidLaw z_ringed z_lumps z_text) H → va_S A s.heap H locs → lv_has ls 2 [(0, .ref z_o)] → W p l e rm_X8_next s m args below meth c H locs 0 0 Q (F0 m 26 ls []) := by
    intro z_cursor_e26 H locs ls h hW hS hl
    unfold f_X8_next_e26 at h
    refine lv_aload_n (pc := 26) hx hb (tb_at tk_X8_next 13 rfl) rfl (lv_at hl 0 rfl) ?_
    refine lv_aload_n (pc := 27) hx hb (tb_at tk_X8_next 14 rfl) rfl (lv_at hl 0 rfl) ?_
    refine k_get (pc := 28) (v := .int z_cursor_e26) (T := TX8) B inG8 hW 0 rfl rfl 14 (by decide) q_f_X8_79 rfl rfl (tb_at tk_X8_next 15 rfl) ?_
    refine k_put (pc := 31) (T := TX8) B inG8 tyX8 tyX8_ok nmX8 hW hS 0 rfl rfl 15 (by decide) q_f_X8_86 rfl rfl rfl rfl (Nat.le_of_ble_eq_true rfl) (tb_at tk_X8_next 16 rfl) (w_X8_next cI cZ cQ cW z_o z_weight_a z_wants_a z_wantsMany_a z_st_a z_was_a z_images_a z_isKept_a z_told_a z_text_a z_saidWeight_a z_saidNights_a z_saidWants_a z_saidMany_a z_now_a z_gave_a z_at_a z_way_a z_bestWay_a z_made_a z_people z_known z_toldMany z_trace z_texted z_cursor_e26 z_cursor_e26 z_token z_number z_isWrong z_items z_saidPeople z_saidLaw z_ringed z_lumps z_text) rfl (fun H locs hW hS => ?_)
    refine lv_aload_n (pc := 34) hx hb (tb_at tk_X8_next 17 rfl) rfl (lv_at hl 0 rfl) ?_
    refine lv_aload_n (pc := 35) hx hb (tb_at tk_X8_next 18 rfl) rfl (lv_at hl 0 rfl) ?_
    refine k_get (pc := 36) (v := .int z_cursor_e26) (T := TX8) B inG8 hW 0 rfl rfl 14 (by decide) q_f_X8_79 rfl rfl (tb_at tk_X8_next 19 rfl) ?_
    refine k_calli (pc := 39) B (k_runVi (rest := []) (C := RX8) B (c_X8_letterAt l dC dI cI cZ cQ cW z_o z_weight_a z_wants_a z_wantsMany_a z_st_a z_was_a z_images_a z_isKept_a z_told_a z_text_a z_saidWeight_a z_saidNights_a z_saidWants_a z_saidMany_a z_now_a z_gave_a z_at_a z_way_a z_bestWay_a z_made_a z_people z_known z_toldMany z_trace z_texted z_cursor_e26 z_cursor_e26 z_token z_number z_isWrong z_items z_saidPeople z_saidLaw z_ringed z_lumps z_text z_cursor_e26 N _ res h) E0_st (fun _ _ _ => trivial) q_c_X8_letterAt q_m_X8_82 q_i_X8_letterAt q_s_X8_letterAt q_n_X8 hd_X8_letterAt ⟨rfl, rfl⟩ ⟨Nat.le_of_ble_eq_true rfl, Nat.le_of_ble_eq_true rfl⟩ hW [0, 1] rfl (by decide +kernel) (q0 := 0) (ci := 8) rfl rfl rfl hl.1 rfl (Nat.le_of_ble_eq_true rfl) (tb_at tk_X8_next 20 rfl) ⟨Nat.zero_le _, Nat.zero_le _⟩) hW hS [0, 1] rfl [z_o, z_text_a] rfl (fun _ => rfl) [some 0, some 1] (by decide +kernel) (fun _ => (w_X8_next cI cZ cQ cW z_o z_weight_a z_wants_a z_wantsMany_a z_st_a z_was_a z_images_a z_isKept_a z_told_a z_text_a z_saidWeight_a z_saidNights_a z_saidWants_a z_saidMany_a z_now_a z_gave_a z_at_a z_way_a z_bestWay_a z_made_a z_people z_known z_toldMany z_trace z_texted z_cursor_e26 z_cursor_e26 z_token z_number z_isWrong z_items z_saidPeople z_saidLaw z_ringed z_lumps z_text)) (fun _ => rfl) (fun r39 u H locs h hW hS => ?_)
    have hW : PD (dC, dI) A (w_X8_next cI cZ cQ cW z_o z_weight_a z_wants_a z_wantsMany_a z_st_a z_was_a z_images_a z_isKept_a z_told_a z_text_a z_saidWeight_a z_saidNights_a z_saidWants_a z_saidMany_a z_now_a z_gave_a z_at_a z_way_a z_bestWay_a z_made_a z_people z_known z_toldMany z_trace z_texted z_cursor_e26 z_cursor_e26 z_token z_number z_isWrong z_items z_saidPeople z_saidLaw z_ringed z_lumps z_text) H := hW
    refine lv_istore_n (pc := 42) (lv' := [(1, .int r39), (0, .ref z_o)]) hx hb (tb_at tk_X8_next 21 rfl) rfl hl (by decide) rfl (fun ls hl => ?_)
    refine lv_aload_n (pc := 43) hx hb (tb_at tk_X8_next 22 rfl) rfl (lv_at hl 1 rfl) ?_
    refine lv_iconst (pc := 44) (v := 0) hx hb (tb_at tk_X8_next 23 rfl) (by decide) ?_
    refine k_put (pc := 45) (T := TX8) B inG8 tyX8 tyX8_ok nmX8 hW hS 0 rfl rfl 17 (by decide) q_f_X8_89 rfl rfl rfl rfl (Nat.le_of_ble_eq_true rfl) (tb_at tk_X8_next 24 rfl) (w_X8_next cI cZ cQ cW z_o z_weight_a z_wants_a z_wantsMany_a z_st_a z_was_a z_images_a z_isKept_a z_told_a z_text_a z_saidWeight_a z_saidNights_a z_saidWants_a z_saidMany_a z_now_a z_gave_a z_at_a z_way_a z_bestWay_a z_made_a z_people z_known z_toldMany z_trace z_texted z_cursor_e26 z_cursor_e26 z_token 0 z_isWrong z_items z_saidPeople z_saidLaw z_ringed z_lumps z_text) rfl (fun H locs hW hS => ?_)
    refine lv_iload_n (pc := 48) hx hb (tb_at tk_X8_next 25 rfl) rfl (lv_at hl 0 rfl) ?_
    refine lv_if_ge (pc := 49) (tgt := 60) hx hb (tb_at tk_X8_next 26 rfl) (by decide) (fun cc => ?_) (fun cc => ?_)
    · have h := it_t cc h
      refine lv_iload_n (pc := 60) hx hb (tb_at tk_X8_next 31 rfl) rfl (lv_at hl 0 rfl) ?_
      refine k_call0 (pc := 61) B (k_runSi (rest := []) (host := "") B (c_X8_isFigure l dC dI cI cZ cQ cW   r39 N _ res h) E0_st (fun _ _ _ => trivial) q_c_X8_isFigure q_m_X8_95 q_t_X8_isFigure q_n_X8 hd_X8_isFigure ⟨rfl, rfl⟩ ⟨Nat.le_of_ble_eq_true rfl, Nat.le_of_ble_eq_true rfl⟩ hW [] rfl (by decide +kernel) rfl hl.1 rfl (Nat.le_of_ble_eq_true rfl) (tb_at tk_X8_next 32 rfl) ⟨Nat.zero_le _, Nat.zero_le _⟩) hW hS (fun r61 u H locs h hW hS => ?_)
      refine lv_if_eq (pc := 64) (tgt := 173) hx hb (tb_at tk_X8_next 33 rfl) (by decide) (fun cc => ?_) (fun cc => ?_)
      · have h := it_t cc h
        refine lv_aload_n (pc := 173) hx hb (tb_at tk_X8_next 87 rfl) rfl (lv_at hl 1 rfl) ?_
        refine lv_iload_n (pc := 174) hx hb (tb_at tk_X8_next 88 rfl) rfl (lv_at hl 0 rfl) ?_
        refine lv_bipush (pc := 175) (v := 112) hx hb (tb_at tk_X8_next 89 rfl) (by decide) ?_
        have w207 : ∀ (s1_j207 : Int32) (H : Heap) (locs : List Loc) (ls : Array Slot), f_X8_next_j207 z_cursor_e26 r39 k s1_j207 = some res → PD (dC, dI) A (w_X8_next cI cZ cQ cW z_o z_weight_a z_wants_a z_wantsMany_a z_st_a z_was_a z_images_a z_isKept_a z_told_a z_text_a z_saidWeight_a z_saidNights_a z_saidWants_a z_saidMany_a z_now_a z_gave_a z_at_a z_way_a z_bestWay_a z_made_a z_people z_known z_toldMany z_trace z_texted z_cursor_e26 z_cursor_e26 z_token 0 z_isWrong z_items z_saidPeople z_saidLaw z_ringed z_lumps z_text) H → va_S A s.heap H locs → lv_has ls 2 [(0, .ref z_o), (1, .int r39)] → W p l e rm_X8_next s m args below meth c H locs 0 0 Q (F0 m 207 ls [.int s1_j207, .ref z_o]) := by
          intro s1_j207 H locs ls h hW hS hl
          unfold f_X8_next_j207 at h
          refine k_put (pc := 207) (T := TX8) B inG8 tyX8 tyX8_ok nmX8 hW hS 0 rfl rfl 16 (by decide) q_f_X8_92 rfl rfl rfl rfl (Nat.le_of_ble_eq_true rfl) (tb_at tk_X8_next 105 rfl) (w_X8_next cI cZ cQ cW z_o z_weight_a z_wants_a z_wantsMany_a z_st_a z_was_a z_images_a z_isKept_a z_told_a z_text_a z_saidWeight_a z_saidNights_a z_saidWants_a z_saidMany_a z_now_a z_gave_a z_at_a z_way_a z_bestWay_a z_made_a z_people z_known z_toldMany z_trace z_texted z_cursor_e26 z_cursor_e26 s1_j207 0 z_isWrong z_items z_saidPeople z_saidLaw z_ringed z_lumps z_text) rfl (fun H locs hW hS => ?_)
          refine lv_aload_n (pc := 210) hx hb (tb_at tk_X8_next 106 rfl) rfl (lv_at hl 0 rfl) ?_
          refine lv_iload_n (pc := 211) hx hb (tb_at tk_X8_next 107 rfl) rfl (lv_at hl 1 rfl) ?_
          refine k_put (pc := 212) (T := TX8) B inG8 tyX8 tyX8_ok nmX8 hW hS 0 rfl rfl 17 (by decide) q_f_X8_89 rfl rfl rfl rfl (Nat.le_of_ble_eq_true rfl) (tb_at tk_X8_next 108 rfl) (w_X8_next cI cZ cQ cW z_o z_weight_a z_wants_a z_wantsMany_a z_st_a z_was_a z_images_a z_isKept_a z_told_a z_text_a z_saidWeight_a z_saidNights_a z_saidWants_a z_saidMany_a z_now_a z_gave_a z_at_a z_way_a z_bestWay_a z_made_a z_people z_known z_toldMany z_trace z_texted z_cursor_e26 z_cursor_e26 s1_j207 r39 z_isWrong z_items z_saidPeople z_saidLaw z_ringed z_lumps z_text) rfl (fun H locs hW hS => ?_)
          refine lv_aload_n (pc := 215) hx hb (tb_at tk_X8_next 109 rfl) rfl (lv_at hl 0 rfl) ?_
          refine lv_dup (pc := 216) hx hb (tb_at tk_X8_next 110 rfl) rfl ?_
          refine k_get (pc := 217) (v := .int z_cursor_e26) (T := TX8) B inG8 hW 0 rfl rfl 14 (by decide) q_f_X8_79 rfl rfl (tb_at tk_X8_next 111 rfl) ?_
          refine lv_iconst (pc := 220) (v := 1) hx hb (tb_at tk_X8_next 112 rfl) (by decide) ?_
          refine lv_iadd (pc := 221) hx hb (tb_at tk_X8_next 113 rfl) ?_
          refine k_put (pc := 222) (T := TX8) B inG8 tyX8 tyX8_ok nmX8 hW hS 0 rfl rfl 14 (by decide) q_f_X8_79 rfl rfl rfl rfl (Nat.le_of_ble_eq_true rfl) (tb_at tk_X8_next 114 rfl) (w_X8_next cI cZ cQ cW z_o z_weight_a z_wants_a z_wantsMany_a z_st_a z_was_a z_images_a z_isKept_a z_told_a z_text_a z_saidWeight_a z_saidNights_a z_saidWants_a z_saidMany_a z_now_a z_gave_a z_at_a z_way_a z_bestWay_a z_made_a z_people z_known z_toldMany z_trace z_texted (z_cursor_e26 + 1) z_cursor_e26 s1_j207 r39 z_isWrong z_items z_saidPeople z_saidLaw z_ringed z_lumps z_text) rfl (fun H locs hW hS => ?_)
          exact hQ (z_cursor_e26 + 1, z_cursor_e26, s1_j207, r39) _ _ _ 225 h hW hS (tb_at tk_X8_next 115 rfl)
        have w192 : ∀ (H : Heap) (locs : List Loc) (ls : Array Slot), f_X8_next_j192 z_cursor_e26 r39 k = some res → PD (dC, dI) A (w_X8_next cI cZ cQ cW z_o z_weight_a z_wants_a z_wantsMany_a z_st_a z_was_a z_images_a z_isKept_a z_told_a z_text_a z_saidWeight_a z_saidNights_a z_saidWants_a z_saidMany_a z_now_a z_gave_a z_at_a z_way_a z_bestWay_a z_made_a z_people z_known z_toldMany z_trace z_texted z_cursor_e26 z_cursor_e26 z_token 0 z_isWrong z_items z_saidPeople z_saidLaw z_ringed z_lumps z_text) H → va_S A s.heap H locs → lv_has ls 2 [(0, .ref z_o), (1, .int r39)] → W p l e rm_X8_next s m args below meth c H locs 0 0 Q (F0 m 192 ls [.ref z_o]) := by
          intro H locs ls h hW hS hl
          unfold f_X8_next_j192 at h
          refine lv_iconst (pc := 192) (v := 1) hx hb (tb_at tk_X8_next 97 rfl) (by decide) ?_
          refine lv_goto (pc := 193) (tgt := 207) hx hb (tb_at tk_X8_next 98 rfl) (by decide) ?_
          exact w207 1 _ _ _ h hW hS (lv_sub hl [0, 1] rfl)
        refine lv_icmp_eq (pc := 177) (tgt := 192) hx hb (tb_at tk_X8_next 90 rfl) (by decide) (fun cc => ?_) (fun cc => ?_)
        · have h := it_t cc h
          exact w192  _ _ _ h hW hS (lv_sub hl [1, 0] rfl)
        · have h := it_f cc h
          refine lv_iload_n (pc := 180) hx hb (tb_at tk_X8_next 91 rfl) rfl (lv_at hl 0 rfl) ?_
          refine lv_bipush (pc := 181) (v := 119) hx hb (tb_at tk_X8_next 92 rfl) (by decide) ?_
          refine lv_icmp_eq (pc := 183) (tgt := 192) hx hb (tb_at tk_X8_next 93 rfl) (by decide) (fun cc => ?_) (fun cc => ?_)
          · have h := it_t cc h
            exact w192  _ _ _ h hW hS (lv_sub hl [1, 0] rfl)
          · have h := it_f cc h
            refine lv_iload_n (pc := 186) hx hb (tb_at tk_X8_next 94 rfl) rfl (lv_at hl 0 rfl) ?_
            refine lv_bipush (pc := 187) (v := 108) hx hb (tb_at tk_X8_next 95 rfl) (by decide) ?_
            refine lv_icmp_ne (pc := 189) (tgt := 196) hx hb (tb_at tk_X8_next 96 rfl) (by decide) (fun cc => ?_) (fun cc => ?_)
            · have h := it_f cc h
              refine lv_iload_n (pc := 196) hx hb (tb_at tk_X8_next 99 rfl) rfl (lv_at hl 0 rfl) ?_
              refine lv_bipush (pc := 197) (v := 59) hx hb (tb_at tk_X8_next 100 rfl) (by decide) ?_
              refine lv_icmp_ne (pc := 199) (tgt := 206) hx hb (tb_at tk_X8_next 101 rfl) (by decide) (fun cc => ?_) (fun cc => ?_)
              · have h := it_f cc h
                refine lv_iconst (pc := 206) (v := 4) hx hb (tb_at tk_X8_next 104 rfl) (by decide) ?_
                exact w207 4 _ _ _ h hW hS (lv_sub hl [1, 0] rfl)
              · have h := it_t cc h
                refine lv_iconst (pc := 202) (v := 3) hx hb (tb_at tk_X8_next 102 rfl) (by decide) ?_
                refine lv_goto (pc := 203) (tgt := 207) hx hb (tb_at tk_X8_next 103 rfl) (by decide) ?_
                exact w207 3 _ _ _ h hW hS (lv_sub hl [1, 0] rfl)
            · have h := it_t cc h
              exact w192  _ _ _ h hW hS (lv_sub hl [1, 0] rfl)
      · have h := it_f cc h
        have w133 : ∀ (z_cursor_e133 : Int32) (z_number_e133 : Int32) (H : Heap) (locs : List Loc) (ls : Array Slot), f_X8_next_e133 z_cursor_e26 r39 k z_cursor_e133 z_number_e133 = some res → PD (dC, dI) A (w_X8_next cI cZ cQ cW z_o z_weight_a z_wants_a z_wantsMany_a z_st_a z_was_a z_images_a z_isKept_a z_told_a z_text_a z_saidWeight_a z_saidNights_a z_saidWants_a z_saidMany_a z_now_a z_gave_a z_at_a z_way_a z_bestWay_a z_made_a z_people z_known z_toldMany z_trace z_texted z_cursor_e133 z_cursor_e26 z_token z_number_e133 z_isWrong z_items z_saidPeople z_saidLaw z_ringed z_lumps z_text) H → va_S A s.heap H locs → lv_has ls 2 [(0, .ref z_o), (1, .int r39)] → W p l e rm_X8_next s m args below meth c H locs 0 0 Q (F0 m 133 ls []) := by
          intro z_cursor_e133 z_number_e133 H locs ls h hW hS hl
          unfold f_X8_next_e133 at h
          refine lv_aload_n (pc := 133) hx hb (tb_at tk_X8_next 67 rfl) rfl (lv_at hl 0 rfl) ?_
          refine lv_aload_n (pc := 134) hx hb (tb_at tk_X8_next 68 rfl) rfl (lv_at hl 0 rfl) ?_
          refine k_get (pc := 135) (v := .int z_number_e133) (T := TX8) B inG8 hW 0 rfl rfl 17 (by decide) q_f_X8_89 rfl rfl (tb_at tk_X8_next 69 rfl) ?_
          refine lv_bipush (pc := 138) (v := 99) hx hb (tb_at tk_X8_next 70 rfl) (by decide) ?_
          have w167 : ∀ (s1_j167 : Int32) (H : Heap) (locs : List Loc) (ls : Array Slot), f_X8_next_j167 z_cursor_e26 z_cursor_e133 z_number_e133 k s1_j167 = some res → PD (dC, dI) A (w_X8_next cI cZ cQ cW z_o z_weight_a z_wants_a z_wantsMany_a z_st_a z_was_a z_images_a z_isKept_a z_told_a z_text_a z_saidWeight_a z_saidNights_a z_saidWants_a z_saidMany_a z_now_a z_gave_a z_at_a z_way_a z_bestWay_a z_made_a z_people z_known z_toldMany z_trace z_texted z_cursor_e133 z_cursor_e26 z_token z_number_e133 z_isWrong z_items z_saidPeople z_saidLaw z_ringed z_lumps z_text) H → va_S A s.heap H locs → lv_has ls 2 [] → W p l e rm_X8_next s m args below meth c H locs 0 0 Q (F0 m 167 ls [.int s1_j167, .ref z_o]) := by
            intro s1_j167 H locs ls h hW hS hl
            unfold f_X8_next_j167 at h
            refine k_put (pc := 167) (T := TX8) B inG8 tyX8 tyX8_ok nmX8 hW hS 0 rfl rfl 16 (by decide) q_f_X8_92 rfl rfl rfl rfl (Nat.le_of_ble_eq_true rfl) (tb_at tk_X8_next 85 rfl) (w_X8_next cI cZ cQ cW z_o z_weight_a z_wants_a z_wantsMany_a z_st_a z_was_a z_images_a z_isKept_a z_told_a z_text_a z_saidWeight_a z_saidNights_a z_saidWants_a z_saidMany_a z_now_a z_gave_a z_at_a z_way_a z_bestWay_a z_made_a z_people z_known z_toldMany z_trace z_texted z_cursor_e133 z_cursor_e26 s1_j167 z_number_e133 z_isWrong z_items z_saidPeople z_saidLaw z_ringed z_lumps z_text) rfl (fun H locs hW hS => ?_)
            refine lv_goto (pc := 170) (tgt := 225) hx hb (tb_at tk_X8_next 86 rfl) (by decide) ?_
            exact hQ (z_cursor_e133, z_cursor_e26, s1_j167, z_number_e133) _ _ _ 225 h hW hS (tb_at tk_X8_next 115 rfl)
          have w162 : ∀ (H : Heap) (locs : List Loc) (ls : Array Slot), f_X8_next_j162 z_cursor_e26 z_cursor_e133 z_number_e133 k = some res → PD (dC, dI) A (w_X8_next cI cZ cQ cW z_o z_weight_a z_wants_a z_wantsMany_a z_st_a z_was_a z_images_a z_isKept_a z_told_a z_text_a z_saidWeight_a z_saidNights_a z_saidWants_a z_saidMany_a z_now_a z_gave_a z_at_a z_way_a z_bestWay_a z_made_a z_people z_known z_toldMany z_trace z_texted z_cursor_e133 z_cursor_e26 z_token z_number_e133 z_isWrong z_items z_saidPeople z_saidLaw z_ringed z_lumps z_text) H → va_S A s.heap H locs → lv_has ls 2 [] → W p l e rm_X8_next s m args below meth c H locs 0 0 Q (F0 m 162 ls [.ref z_o]) := by
            intro H locs ls h hW hS hl
            unfold f_X8_next_j162 at h
            refine lv_iconst (pc := 162) (v := 4) hx hb (tb_at tk_X8_next 82 rfl) (by decide) ?_
            refine lv_goto (pc := 163) (tgt := 167) hx hb (tb_at tk_X8_next 83 rfl) (by decide) ?_
            exact w167 4 _ _ _ h hW hS (lv_sub hl [] rfl)
          refine lv_icmp_gt (pc := 140) (tgt := 162) hx hb (tb_at tk_X8_next 71 rfl) (by decide) (fun cc => ?_) (fun cc => ?_)
          · have h := it_t cc h
            exact w162  _ _ _ h hW hS (lv_sub hl [] rfl)
          · have h := it_f cc h
            refine lv_iload_n (pc := 143) hx hb (tb_at tk_X8_next 72 rfl) rfl (lv_at hl 1 rfl) ?_
            refine lv_bipush (pc := 144) (v := 48) hx hb (tb_at tk_X8_next 73 rfl) (by decide) ?_
            have w166 : ∀ (H : Heap) (locs : List Loc) (ls : Array Slot), f_X8_next_j166 z_cursor_e26 z_cursor_e133 z_number_e133 k = some res → PD (dC, dI) A (w_X8_next cI cZ cQ cW z_o z_weight_a z_wants_a z_wantsMany_a z_st_a z_was_a z_images_a z_isKept_a z_told_a z_text_a z_saidWeight_a z_saidNights_a z_saidWants_a z_saidMany_a z_now_a z_gave_a z_at_a z_way_a z_bestWay_a z_made_a z_people z_known z_toldMany z_trace z_texted z_cursor_e133 z_cursor_e26 z_token z_number_e133 z_isWrong z_items z_saidPeople z_saidLaw z_ringed z_lumps z_text) H → va_S A s.heap H locs → lv_has ls 2 [] → W p l e rm_X8_next s m args below meth c H locs 0 0 Q (F0 m 166 ls [.ref z_o]) := by
              intro H locs ls h hW hS hl
              unfold f_X8_next_j166 at h
              refine lv_iconst (pc := 166) (v := 2) hx hb (tb_at tk_X8_next 84 rfl) (by decide) ?_
              exact w167 2 _ _ _ h hW hS (lv_sub hl [] rfl)
            refine lv_icmp_ne (pc := 146) (tgt := 166) hx hb (tb_at tk_X8_next 74 rfl) (by decide) (fun cc => ?_) (fun cc => ?_)
            · have h := it_f cc h
              exact w166  _ _ _ h hW hS (lv_sub hl [] rfl)
            · have h := it_t cc h
              refine lv_aload_n (pc := 149) hx hb (tb_at tk_X8_next 75 rfl) rfl (lv_at hl 0 rfl) ?_
              refine k_get (pc := 150) (v := .int z_cursor_e133) (T := TX8) B inG8 hW 0 rfl rfl 14 (by decide) q_f_X8_79 rfl rfl (tb_at tk_X8_next 76 rfl) ?_
              refine lv_aload_n (pc := 153) hx hb (tb_at tk_X8_next 77 rfl) rfl (lv_at hl 0 rfl) ?_
              refine k_get (pc := 154) (v := .int z_cursor_e26) (T := TX8) B inG8 hW 0 rfl rfl 15 (by decide) q_f_X8_86 rfl rfl (tb_at tk_X8_next 78 rfl) ?_
              refine lv_isub (pc := 157) hx hb (tb_at tk_X8_next 79 rfl) ?_
              refine lv_iconst (pc := 158) (v := 1) hx hb (tb_at tk_X8_next 80 rfl) (by decide) ?_
              refine lv_icmp_le (pc := 159) (tgt := 166) hx hb (tb_at tk_X8_next 81 rfl) (by decide) (fun cc => ?_) (fun cc => ?_)
              · have h := it_t cc h
                exact w166  _ _ _ h hW hS (lv_sub hl [] rfl)
              · have h := it_f cc h
                exact w162  _ _ _ h hW hS (lv_sub hl [] rfl)
        have w67 : ∀ (n : Nat), ∀ (z_cursor_l67 : Int32) (z_number_l67 : Int32) (H : Heap) (locs : List Loc) (ls : Array Slot), f_X8_next_l67 z_texted z_text (fun z_cursor_e133 z_number_e133 => f_X8_next_e133 z_cursor_e26 r39 k z_cursor_e133 z_number_e133) N n z_cursor_l67 z_number_l67 = some res → PD (dC, dI) A (w_X8_next cI cZ cQ cW z_o z_weight_a z_wants_a z_wantsMany_a z_st_a z_was_a z_images_a z_isKept_a z_told_a z_text_a z_saidWeight_a z_saidNights_a z_saidWants_a z_saidMany_a z_now_a z_gave_a z_at_a z_way_a z_bestWay_a z_made_a z_people z_known z_toldMany z_trace z_texted z_cursor_l67 z_cursor_e26 z_token z_number_l67 z_isWrong z_items z_saidPeople z_saidLaw z_ringed z_lumps z_text) H → va_S A s.heap H locs → lv_has ls 2 [(0, .ref z_o), (1, .int r39)] → W p l e rm_X8_next s m args below meth c H locs 0 0 Q (F0 m 67 ls []) := by
          intro n
          induction n with
          | zero => intro z_cursor_l67 z_number_l67 H locs ls h; exact no_n h
          | succ n67 ih67 =>
            intro z_cursor_l67 z_number_l67 H locs ls h hW hS hl
            rw [f_X8_next_l67] at h
            refine lv_aload_n (pc := 67) hx hb (tb_at tk_X8_next 34 rfl) rfl (lv_at hl 0 rfl) ?_
            refine lv_aload_n (pc := 68) hx hb (tb_at tk_X8_next 35 rfl) rfl (lv_at hl 0 rfl) ?_
            refine k_get (pc := 69) (v := .int z_cursor_l67) (T := TX8) B inG8 hW 0 rfl rfl 14 (by decide) q_f_X8_79 rfl rfl (tb_at tk_X8_next 36 rfl) ?_
            refine k_calli (pc := 72) B (k_runVi (rest := []) (C := RX8) B (c_X8_letterAt l dC dI cI cZ cQ cW z_o z_weight_a z_wants_a z_wantsMany_a z_st_a z_was_a z_images_a z_isKept_a z_told_a z_text_a z_saidWeight_a z_saidNights_a z_saidWants_a z_saidMany_a z_now_a z_gave_a z_at_a z_way_a z_bestWay_a z_made_a z_people z_known z_toldMany z_trace z_texted z_cursor_l67 z_cursor_e26 z_token z_number_l67 z_isWrong z_items z_saidPeople z_saidLaw z_ringed z_lumps z_text z_cursor_l67 N _ res h) E0_st (fun _ _ _ => trivial) q_c_X8_letterAt q_m_X8_82 q_i_X8_letterAt q_s_X8_letterAt q_n_X8 hd_X8_letterAt ⟨rfl, rfl⟩ ⟨Nat.le_of_ble_eq_true rfl, Nat.le_of_ble_eq_true rfl⟩ hW [0, 1] rfl (by decide +kernel) (q0 := 0) (ci := 8) rfl rfl rfl hl.1 rfl (Nat.le_of_ble_eq_true rfl) (tb_at tk_X8_next 37 rfl) ⟨Nat.zero_le _, Nat.zero_le _⟩) hW hS [0, 1] rfl [z_o, z_text_a] rfl (fun _ => rfl) [some 0, some 1] (by decide +kernel) (fun _ => (w_X8_next cI cZ cQ cW z_o z_weight_a z_wants_a z_wantsMany_a z_st_a z_was_a z_images_a z_isKept_a z_told_a z_text_a z_saidWeight_a z_saidNights_a z_saidWants_a z_saidMany_a z_now_a z_gave_a z_at_a z_way_a z_bestWay_a z_made_a z_people z_known z_toldMany z_trace z_texted z_cursor_l67 z_cursor_e26 z_token z_number_l67 z_isWrong z_items z_saidPeople z_saidLaw z_ringed z_lumps z_text)) (fun _ => rfl) (fun r72 u H locs h hW hS => ?_)
            have hW : PD (dC, dI) A (w_X8_next cI cZ cQ cW z_o z_weight_a z_wants_a z_wantsMany_a z_st_a z_was_a z_images_a z_isKept_a z_told_a z_text_a z_saidWeight_a z_saidNights_a z_saidWants_a z_saidMany_a z_now_a z_gave_a z_at_a z_way_a z_bestWay_a z_made_a z_people z_known z_toldMany z_trace z_texted z_cursor_l67 z_cursor_e26 z_token z_number_l67 z_isWrong z_items z_saidPeople z_saidLaw z_ringed z_lumps z_text) H := hW
            refine k_call0 (pc := 75) B (k_runSi (rest := []) (host := "") B (c_X8_isFigure l dC dI cI cZ cQ cW   r72 N _ res h) E0_st (fun _ _ _ => trivial) q_c_X8_isFigure q_m_X8_95 q_t_X8_isFigure q_n_X8 hd_X8_isFigure ⟨rfl, rfl⟩ ⟨Nat.le_of_ble_eq_true rfl, Nat.le_of_ble_eq_true rfl⟩ hW [] rfl (by decide +kernel) rfl hl.1 rfl (Nat.le_of_ble_eq_true rfl) (tb_at tk_X8_next 38 rfl) ⟨Nat.zero_le _, Nat.zero_le _⟩) hW hS (fun r75 u H locs h hW hS => ?_)
            refine lv_if_eq (pc := 78) (tgt := 133) hx hb (tb_at tk_X8_next 39 rfl) (by decide) (fun cc => ?_) (fun cc => ?_)
            · have h := it_t cc h
              exact w133 z_cursor_l67 z_number_l67 _ _ _ h hW hS (lv_sub hl [0, 1] rfl)
            · have h := it_f cc h
              refine lv_aload_n (pc := 81) hx hb (tb_at tk_X8_next 40 rfl) rfl (lv_at hl 0 rfl) ?_
              refine lv_aload_n (pc := 82) hx hb (tb_at tk_X8_next 41 rfl) rfl (lv_at hl 0 rfl) ?_
              refine k_get (pc := 83) (v := .int z_number_l67) (T := TX8) B inG8 hW 0 rfl rfl 17 (by decide) q_f_X8_89 rfl rfl (tb_at tk_X8_next 42 rfl) ?_
              refine lv_bipush (pc := 86) (v := 99) hx hb (tb_at tk_X8_next 43 rfl) (by decide) ?_
              have w117 : ∀ (s1_j117 : Int32) (H : Heap) (locs : List Loc) (ls : Array Slot), f_X8_next_j117 z_cursor_l67 (f_X8_next_l67 z_texted z_text (fun z_cursor_e133 z_number_e133 => f_X8_next_e133 z_cursor_e26 r39 k z_cursor_e133 z_number_e133) N n67) s1_j117 = some res → PD (dC, dI) A (w_X8_next cI cZ cQ cW z_o z_weight_a z_wants_a z_wantsMany_a z_st_a z_was_a z_images_a z_isKept_a z_told_a z_text_a z_saidWeight_a z_saidNights_a z_saidWants_a z_saidMany_a z_now_a z_gave_a z_at_a z_way_a z_bestWay_a z_made_a z_people z_known z_toldMany z_trace z_texted z_cursor_l67 z_cursor_e26 z_token z_number_l67 z_isWrong z_items z_saidPeople z_saidLaw z_ringed z_lumps z_text) H → va_S A s.heap H locs → lv_has ls 2 [(0, .ref z_o), (1, .int r39)] → W p l e rm_X8_next s m args below meth c H locs 0 0 Q (F0 m 117 ls [.int s1_j117, .ref z_o]) := by
                intro s1_j117 H locs ls h hW hS hl
                unfold f_X8_next_j117 at h
                refine k_put (pc := 117) (T := TX8) B inG8 tyX8 tyX8_ok nmX8 hW hS 0 rfl rfl 17 (by decide) q_f_X8_89 rfl rfl rfl rfl (Nat.le_of_ble_eq_true rfl) (tb_at tk_X8_next 59 rfl) (w_X8_next cI cZ cQ cW z_o z_weight_a z_wants_a z_wantsMany_a z_st_a z_was_a z_images_a z_isKept_a z_told_a z_text_a z_saidWeight_a z_saidNights_a z_saidWants_a z_saidMany_a z_now_a z_gave_a z_at_a z_way_a z_bestWay_a z_made_a z_people z_known z_toldMany z_trace z_texted z_cursor_l67 z_cursor_e26 z_token s1_j117 z_isWrong z_items z_saidPeople z_saidLaw z_ringed z_lumps z_text) rfl (fun H locs hW hS => ?_)
                refine lv_aload_n (pc := 120) hx hb (tb_at tk_X8_next 60 rfl) rfl (lv_at hl 0 rfl) ?_
                refine lv_dup (pc := 121) hx hb (tb_at tk_X8_next 61 rfl) rfl ?_
                refine k_get (pc := 122) (v := .int z_cursor_l67) (T := TX8) B inG8 hW 0 rfl rfl 14 (by decide) q_f_X8_79 rfl rfl (tb_at tk_X8_next 62 rfl) ?_
                refine lv_iconst (pc := 125) (v := 1) hx hb (tb_at tk_X8_next 63 rfl) (by decide) ?_
                refine lv_iadd (pc := 126) hx hb (tb_at tk_X8_next 64 rfl) ?_
                refine k_put (pc := 127) (T := TX8) B inG8 tyX8 tyX8_ok nmX8 hW hS 0 rfl rfl 14 (by decide) q_f_X8_79 rfl rfl rfl rfl (Nat.le_of_ble_eq_true rfl) (tb_at tk_X8_next 65 rfl) (w_X8_next cI cZ cQ cW z_o z_weight_a z_wants_a z_wantsMany_a z_st_a z_was_a z_images_a z_isKept_a z_told_a z_text_a z_saidWeight_a z_saidNights_a z_saidWants_a z_saidMany_a z_now_a z_gave_a z_at_a z_way_a z_bestWay_a z_made_a z_people z_known z_toldMany z_trace z_texted (z_cursor_l67 + 1) z_cursor_e26 z_token s1_j117 z_isWrong z_items z_saidPeople z_saidLaw z_ringed z_lumps z_text) rfl (fun H locs hW hS => ?_)
                refine lv_goto (pc := 130) (tgt := 67) hx hb (tb_at tk_X8_next 66 rfl) (by decide) ?_
                exact ih67 (z_cursor_l67 + 1) s1_j117 _ _ _ h hW hS (lv_sub hl [0, 1] rfl)
              refine lv_icmp_le (pc := 88) (tgt := 98) hx hb (tb_at tk_X8_next 44 rfl) (by decide) (fun cc => ?_) (fun cc => ?_)
              · have h := it_t cc h
                refine lv_bipush (pc := 98) (v := 10) hx hb (tb_at tk_X8_next 48 rfl) (by decide) ?_
                refine lv_aload_n (pc := 100) hx hb (tb_at tk_X8_next 49 rfl) rfl (lv_at hl 0 rfl) ?_
                refine k_get (pc := 101) (v := .int z_number_l67) (T := TX8) B inG8 hW 0 rfl rfl 17 (by decide) q_f_X8_89 rfl rfl (tb_at tk_X8_next 50 rfl) ?_
                refine lv_imul (pc := 104) hx hb (tb_at tk_X8_next 51 rfl) ?_
                refine lv_aload_n (pc := 105) hx hb (tb_at tk_X8_next 52 rfl) rfl (lv_at hl 0 rfl) ?_
                refine lv_aload_n (pc := 106) hx hb (tb_at tk_X8_next 53 rfl) rfl (lv_at hl 0 rfl) ?_
                refine k_get (pc := 107) (v := .int z_cursor_l67) (T := TX8) B inG8 hW 0 rfl rfl 14 (by decide) q_f_X8_79 rfl rfl (tb_at tk_X8_next 54 rfl) ?_
                refine k_calli (pc := 110) B (k_runVi (rest := [.int ((10 : Int32) * z_number_l67), .ref z_o]) (C := RX8) B (c_X8_letterAt l dC dI cI cZ cQ cW z_o z_weight_a z_wants_a z_wantsMany_a z_st_a z_was_a z_images_a z_isKept_a z_told_a z_text_a z_saidWeight_a z_saidNights_a z_saidWants_a z_saidMany_a z_now_a z_gave_a z_at_a z_way_a z_bestWay_a z_made_a z_people z_known z_toldMany z_trace z_texted z_cursor_l67 z_cursor_e26 z_token z_number_l67 z_isWrong z_items z_saidPeople z_saidLaw z_ringed z_lumps z_text z_cursor_l67 N _ res h) E0_st (fun _ _ _ => trivial) q_c_X8_letterAt q_m_X8_82 q_i_X8_letterAt q_s_X8_letterAt q_n_X8 hd_X8_letterAt ⟨rfl, rfl⟩ ⟨Nat.le_of_ble_eq_true rfl, Nat.le_of_ble_eq_true rfl⟩ hW [0, 1] rfl (by decide +kernel) (q0 := 0) (ci := 8) rfl rfl rfl hl.1 rfl (Nat.le_of_ble_eq_true rfl) (tb_at tk_X8_next 55 rfl) ⟨Nat.zero_le _, Nat.zero_le _⟩) hW hS [0, 1] rfl [z_o, z_text_a] rfl (fun _ => rfl) [some 0, some 1] (by decide +kernel) (fun _ => (w_X8_next cI cZ cQ cW z_o z_weight_a z_wants_a z_wantsMany_a z_st_a z_was_a z_images_a z_isKept_a z_told_a z_text_a z_saidWeight_a z_saidNights_a z_saidWants_a z_saidMany_a z_now_a z_gave_a z_at_a z_way_a z_bestWay_a z_made_a z_people z_known z_toldMany z_trace z_texted z_cursor_l67 z_cursor_e26 z_token z_number_l67 z_isWrong z_items z_saidPeople z_saidLaw z_ringed z_lumps z_text)) (fun _ => rfl) (fun r110 u H locs h hW hS => ?_)
                have hW : PD (dC, dI) A (w_X8_next cI cZ cQ cW z_o z_weight_a z_wants_a z_wantsMany_a z_st_a z_was_a z_images_a z_isKept_a z_told_a z_text_a z_saidWeight_a z_saidNights_a z_saidWants_a z_saidMany_a z_now_a z_gave_a z_at_a z_way_a z_bestWay_a z_made_a z_people z_known z_toldMany z_trace z_texted z_cursor_l67 z_cursor_e26 z_token z_number_l67 z_isWrong z_items z_saidPeople z_saidLaw z_ringed z_lumps z_text) H := hW
                refine lv_iadd (pc := 113) hx hb (tb_at tk_X8_next 56 rfl) ?_
                refine lv_bipush (pc := 114) (v := 48) hx hb (tb_at tk_X8_next 57 rfl) (by decide) ?_
                refine lv_isub (pc := 116) hx hb (tb_at tk_X8_next 58 rfl) ?_
                exact w117 ((((10 : Int32) * z_number_l67) + r110) - 48) _ _ _ h hW hS (lv_sub hl [0, 1] rfl)
              · have h := it_f cc h
                refine lv_aload_n (pc := 91) hx hb (tb_at tk_X8_next 45 rfl) rfl (lv_at hl 0 rfl) ?_
                refine k_get (pc := 92) (v := .int z_number_l67) (T := TX8) B inG8 hW 0 rfl rfl 17 (by decide) q_f_X8_89 rfl rfl (tb_at tk_X8_next 46 rfl) ?_
                refine lv_goto (pc := 95) (tgt := 117) hx hb (tb_at tk_X8_next 47 rfl) (by decide) ?_
                exact w117 z_number_l67 _ _ _ h hW hS (lv_sub hl [0, 1] rfl)
        exact w67 N z_cursor_e26 0 _ _ _ h hW hS (lv_sub hl [1, 0] rfl)
    · have h := it_f cc h
      refine lv_aload_n (pc := 52) hx hb (tb_at tk_X8_next 27 rfl) rfl (lv_at hl 1 rfl) ?_
      refine lv_iconst (pc := 53) (v := 0) hx hb (tb_at tk_X8_next 28 rfl) (by decide) ?_
      refine k_put (pc := 54) (T := TX8) B inG8 tyX8 tyX8_ok nmX8 hW hS 0 rfl rfl 16 (by decide) q_f_X8_92 rfl rfl rfl rfl (Nat.le_of_ble_eq_true rfl) (tb_at tk_X8_next 29 rfl) (w_X8_next cI cZ cQ cW z_o z_weight_a z_wants_a z_wantsMany_a z_st_a z_was_a z_images_a z_isKept_a z_told_a z_text_a z_saidWeight_a z_saidNights_a z_saidWants_a z_saidMany_a z_now_a z_gave_a z_at_a z_way_a z_bestWay_a z_made_a z_people z_known z_toldMany z_trace z_texted z_cursor_e26 z_cursor_e26 0 0 z_isWrong z_items z_saidPeople z_saidLaw z_ringed z_lumps z_text) rfl (fun H locs hW hS => ?_)
      refine lv_goto (pc := 57) (tgt := 225) hx hb (tb_at tk_X8_next 30 rfl) (by decide) ?_
      exact hQ (z_cursor_e26, z_cursor_e26, 0, 0) _ _ _ 225 h hW hS (tb_at tk_X8_next 115 rfl)
  have w0 : ∀ (n : Nat), ∀ (z_cursor_l0 : Int32) (H : Heap) (locs : List Loc) (ls : Array Slot), f_X8_next_l0 z_texted z_text (fun z_cursor_e26 => f_X8_next_e26 z_texted z_text k N z_cursor_e26) N n z_cursor_l0 = some res → PD (dC, dI) A (w_X8_next cI cZ cQ cW z_o z_weight_a z_wants_a z_wantsMany_a z_st_a z_was_a z_images_a z_isKept_a z_told_a z_text_a z_saidWeight_a z_saidNights_a z_saidWants_a z_saidMany_a z_now_a z_gave_a z_at_a z_way_a z_bestWay_a z_made_a z_people z_known z_toldMany z_trace z_texted z_cursor_l0 z_start z_token z_number z_isWrong z_items z_saidPeople z_saidLaw z_ringed z_lumps z_text) H → va_S A s.heap H locs → lv_has ls 2 [(0, .ref z_o)] → W p l e rm_X8_next s m args below meth c H locs 0 0 Q (F0 m 0 ls []) := by
    intro n
    induction n with
    | zero => intro z_cursor_l0 H locs ls h; exact no_n h
    | succ n0 ih0 =>
      intro z_cursor_l0 H locs ls h hW hS hl
      rw [f_X8_next_l0] at h
      refine lv_aload_n (pc := 0) hx hb (tb_at tk_X8_next 0 rfl) rfl (lv_at hl 0 rfl) ?_
      refine lv_aload_n (pc := 1) hx hb (tb_at tk_X8_next 1 rfl) rfl (lv_at hl 0 rfl) ?_
      refine k_get (pc := 2) (v := .int z_cursor_l0) (T := TX8) B inG8 hW 0 rfl rfl 14 (by decide) q_f_X8_79 rfl rfl (tb_at tk_X8_next 2 rfl) ?_
      refine k_calli (pc := 5) B (k_runVi (rest := []) (C := RX8) B (c_X8_letterAt l dC dI cI cZ cQ cW z_o z_weight_a z_wants_a z_wantsMany_a z_st_a z_was_a z_images_a z_isKept_a z_told_a z_text_a z_saidWeight_a z_saidNights_a z_saidWants_a z_saidMany_a z_now_a z_gave_a z_at_a z_way_a z_bestWay_a z_made_a z_people z_known z_toldMany z_trace z_texted z_cursor_l0 z_start z_token z_number z_isWrong z_items z_saidPeople z_saidLaw z_ringed z_lumps z_text z_cursor_l0 N _ res h) E0_st (fun _ _ _ => trivial) q_c_X8_letterAt q_m_X8_82 q_i_X8_letterAt q_s_X8_letterAt q_n_X8 hd_X8_letterAt ⟨rfl, rfl⟩ ⟨Nat.le_of_ble_eq_true rfl, Nat.le_of_ble_eq_true rfl⟩ hW [0, 1] rfl (by decide +kernel) (q0 := 0) (ci := 8) rfl rfl rfl hl.1 rfl (Nat.le_of_ble_eq_true rfl) (tb_at tk_X8_next 3 rfl) ⟨Nat.zero_le _, Nat.zero_le _⟩) hW hS [0, 1] rfl [z_o, z_text_a] rfl (fun _ => rfl) [some 0, some 1] (by decide +kernel) (fun _ => (w_X8_next cI cZ cQ cW z_o z_weight_a z_wants_a z_wantsMany_a z_st_a z_was_a z_images_a z_isKept_a z_told_a z_text_a z_saidWeight_a z_saidNights_a z_saidWants_a z_saidMany_a z_now_a z_gave_a z_at_a z_way_a z_bestWay_a z_made_a z_people z_known z_toldMany z_trace z_texted z_cursor_l0 z_start z_token z_number z_isWrong z_items z_saidPeople z_saidLaw z_ringed z_lumps z_text)) (fun _ => rfl) (fun r5 u H locs h hW hS => ?_)
      have hW : PD (dC, dI) A (w_X8_next cI cZ cQ cW z_o z_weight_a z_wants_a z_wantsMany_a z_st_a z_was_a z_images_a z_isKept_a z_told_a z_text_a z_saidWeight_a z_saidNights_a z_saidWants_a z_saidMany_a z_now_a z_gave_a z_at_a z_way_a z_bestWay_a z_made_a z_people z_known z_toldMany z_trace z_texted z_cursor_l0 z_start z_token z_number z_isWrong z_items z_saidPeople z_saidLaw z_ringed z_lumps z_text) H := hW
      refine lv_bipush (pc := 8) (v := 32) hx hb (tb_at tk_X8_next 4 rfl) (by decide) ?_
      refine lv_icmp_ne (pc := 10) (tgt := 26) hx hb (tb_at tk_X8_next 5 rfl) (by decide) (fun cc => ?_) (fun cc => ?_)
      · have h := it_f cc h
        exact w26 z_cursor_l0 _ _ _ h hW hS (lv_sub hl [0] rfl)
      · have h := it_t cc h
        refine lv_aload_n (pc := 13) hx hb (tb_at tk_X8_next 6 rfl) rfl (lv_at hl 0 rfl) ?_
        refine lv_dup (pc := 14) hx hb (tb_at tk_X8_next 7 rfl) rfl ?_
        refine k_get (pc := 15) (v := .int z_cursor_l0) (T := TX8) B inG8 hW 0 rfl rfl 14 (by decide) q_f_X8_79 rfl rfl (tb_at tk_X8_next 8 rfl) ?_
        refine lv_iconst (pc := 18) (v := 1) hx hb (tb_at tk_X8_next 9 rfl) (by decide) ?_
        refine lv_iadd (pc := 19) hx hb (tb_at tk_X8_next 10 rfl) ?_
        refine k_put (pc := 20) (T := TX8) B inG8 tyX8 tyX8_ok nmX8 hW hS 0 rfl rfl 14 (by decide) q_f_X8_79 rfl rfl rfl rfl (Nat.le_of_ble_eq_true rfl) (tb_at tk_X8_next 11 rfl) (w_X8_next cI cZ cQ cW z_o z_weight_a z_wants_a z_wantsMany_a z_st_a z_was_a z_images_a z_isKept_a z_told_a z_text_a z_saidWeight_a z_saidNights_a z_saidWants_a z_saidMany_a z_now_a z_gave_a z_at_a z_way_a z_bestWay_a z_made_a z_people z_known z_toldMany z_trace z_texted (z_cursor_l0 + 1) z_start z_token z_number z_isWrong z_items z_saidPeople z_saidLaw z_ringed z_lumps z_text) rfl (fun H locs hW hS => ?_)
        refine lv_goto (pc := 23) (tgt := 0) hx hb (tb_at tk_X8_next 12 rfl) (by decide) ?_
        exact ih0 (z_cursor_l0 + 1) _ _ _ h hW hS (lv_sub hl [0] rfl)
  exact w0 N z_cursor _ _ _ h hW hS (lv_sub hl [0] rfl)
def f_X8_takesNumber_j60 {ρ : Type} (z_number : Int32) (s0_j32 : Int32) (s1_j43 : Int32) (k : Int32 → Int32 → Int32 → Int32 → Int32 → Int32 → Option ρ) (z_cursor_j60 : Int32) (z_start_j60 : Int32) (z_token_j60 : Int32) (z_number_j60 : Int32) : Option ρ := if s0_j32 = 0 then (k 0 z_cursor_j60 z_start_j60 z_token_j60 z_number_j60 s1_j43) else (k z_number z_cursor_j60 z_start_j60 z_token_j60 z_number_j60 s1_j43)
def f_X8_takesNumber_j43 {ρ : Type} (z_cursor : Int32) (z_start : Int32) (z_token : Int32) (z_number : Int32) (z_texted : Int32) (z_text : Nat → Int32) (s0_j32 : Int32) (k : Int32 → Int32 → Int32 → Int32 → Int32 → Int32 → Option ρ) (N : Nat) (s1_j43 : Int32) : Option ρ := ck (isZ s1_j43) (if s0_j32 = 0 then (f_X8_takesNumber_j60 z_number s0_j32 s1_j43 k z_cursor z_start z_token z_number) else (f_X8_next N z_texted z_cursor z_text (fun z_cursor_57 z_start_57 z_token_57 z_number_57 => f_X8_takesNumber_j60 z_number s0_j32 s1_j43 k z_cursor_57 z_start_57 z_token_57 z_number_57)))
def f_X8_takesNumber_j32 {ρ : Type} (z_cursor : Int32) (z_start : Int32) (z_token : Int32) (z_number : Int32) (z_texted : Int32) (z_text : Nat → Int32) (k : Int32 → Int32 → Int32 → Int32 → Int32 → Int32 → Option ρ) (N : Nat) (s0_j32 : Int32) : Option ρ := if s0_j32 = 0 then (f_X8_takesNumber_j43 z_cursor z_start z_token z_number z_texted z_text s0_j32 k N 1) else (f_X8_takesNumber_j43 z_cursor z_start z_token z_number z_texted z_text s0_j32 k N 0)
def f_X8_takesNumber_j31 {ρ : Type} (z_cursor : Int32) (z_start : Int32) (z_token : Int32) (z_number : Int32) (z_texted : Int32) (z_text : Nat → Int32) (k : Int32 → Int32 → Int32 → Int32 → Int32 → Int32 → Option ρ) (N : Nat) : Option ρ := f_X8_takesNumber_j32 z_cursor z_start z_token z_number z_texted z_text k N 0
def f_X8_takesNumber {ρ : Type} (N : Nat) (z_texted : Int32) (z_cursor : Int32) (z_start : Int32) (z_token : Int32) (z_number : Int32) (z_isWrong : Int32) (z_text : Nat → Int32) (x1 : Int32) (x2 : Int32) (k : Int32 → Int32 → Int32 → Int32 → Int32 → Int32 → Option ρ) : Option ρ := if z_isWrong = 0 then (if z_token = 2 then (f_X8_in N z_number x1 x2 (fun r21 => if r21 = 0 then (f_X8_takesNumber_j31 z_cursor z_start z_token z_number z_texted z_text k N ) else (f_X8_takesNumber_j32 z_cursor z_start z_token z_number z_texted z_text k N 1))) else (f_X8_takesNumber_j31 z_cursor z_start z_token z_number z_texted z_text k N )) else (f_X8_takesNumber_j31 z_cursor z_start z_token z_number z_texted z_text k N )
abbrev w_X8_takesNumber (cI cZ cQ cW : ClassId) (z_o : Nat) (z_weight_a : Nat) (z_wants_a : Nat) (z_wantsMany_a : Nat) (z_st_a : Nat) (z_was_a : Nat) (z_images_a : Nat) (z_isKept_a : Nat) (z_told_a : Nat) (z_text_a : Nat) (z_saidWeight_a : Nat) (z_saidNights_a : Nat) (z_saidWants_a : Nat) (z_saidMany_a : Nat) (z_now_a : Nat) (z_gave_a : Nat) (z_at_a : Nat) (z_way_a : Nat) (z_bestWay_a : Nat) (z_made_a : Nat) (z_people : Int32) (z_known : Int32) (z_toldMany : Int32) (z_trace : Int64) (z_texted : Int32) (z_cursor : Int32) (z_start : Int32) (z_token : Int32) (z_number : Int32) (z_isWrong : Int32) (z_items : Int32) (z_saidPeople : Int32) (z_saidLaw : Int32) (z_ringed : Int32) (z_lumps : Int32) (z_text : Nat → Int32) : va_W := [(z_o, .inr (8, [.int z_people, .ref z_weight_a, .ref z_wants_a, .ref z_wantsMany_a, .ref z_st_a, .ref z_was_a, .int z_known, .ref z_images_a, .ref z_isKept_a, .int z_toldMany, .ref z_told_a, .long z_trace, .ref z_text_a, .int z_texted, .int z_cursor, .int z_start, .int z_token, .int z_number, .int z_isWrong, .int z_items, .int z_saidPeople, .ref z_saidWeight_a, .ref z_saidNights_a, .ref z_saidWants_a, .ref z_saidMany_a, .int z_saidLaw, .ref z_now_a, .ref z_gave_a, .ref z_at_a, .int z_ringed, .int z_lumps, .ref z_way_a, .ref z_bestWay_a, .ref z_made_a])), (z_text_a, .inl (cI, 150, .inl z_text))]
abbrev rm_X8_takesNumber : Room := { frames := 3, cells := 0, slots := 0, locals := 63 }
set_option maxHeartbeats 4000000 in
set_option maxRecDepth 100000 in
theorem c_X8_takesNumber (l : Launch) (dC : Nat → ClassId) (dI : Nat → Nat → Nat) (cI cZ cQ cW : ClassId) (z_o : Nat) (z_weight_a : Nat) (z_wants_a : Nat) (z_wantsMany_a : Nat) (z_st_a : Nat) (z_was_a : Nat) (z_images_a : Nat) (z_isKept_a : Nat) (z_told_a : Nat) (z_text_a : Nat) (z_saidWeight_a : Nat) (z_saidNights_a : Nat) (z_saidWants_a : Nat) (z_saidMany_a : Nat) (z_now_a : Nat) (z_gave_a : Nat) (z_at_a : Nat) (z_way_a : Nat) (z_bestWay_a : Nat) (z_made_a : Nat) (z_people : Int32) (z_known : Int32) (z_toldMany : Int32) (z_trace : Int64) (z_texted : Int32) (z_cursor : Int32) (z_start : Int32) (z_token : Int32) (z_number : Int32) (z_isWrong : Int32) (z_items : Int32) (z_saidPeople : Int32) (z_saidLaw : Int32) (z_ringed : Int32) (z_lumps : Int32) (z_text : Nat → Int32) (x1 : Int32) (x2 : Int32) {ρ : Type} (N : Nat) (k : Int32 → Int32 → Int32 → Int32 → Int32 → Int32 → Option ρ) (res : ρ) (h : f_X8_takesNumber N z_texted z_cursor z_start z_token z_number z_isWrong z_text x1 x2 k = some res) : Ci l yX8_takesNumber (WS yX8_takesNumber cX8_takesNumber 5 (some .int)) rm_X8_takesNumber (dC, dI) (tysG cI cZ cQ cW) E0 [.ref z_o, .int x1, .int x2] (w_X8_takesNumber cI cZ cQ cW z_o z_weight_a z_wants_a z_wantsMany_a z_st_a z_was_a z_images_a z_isKept_a z_told_a z_text_a z_saidWeight_a z_saidNights_a z_saidWants_a z_saidMany_a z_now_a z_gave_a z_at_a z_way_a z_bestWay_a z_made_a z_people z_known z_toldMany z_trace z_texted z_cursor z_start z_token z_number z_isWrong z_items z_saidPeople z_saidLaw z_ringed z_lumps z_text) (fun (u : Int32 × Int32 × Int32 × Int32 × Int32) => (w_X8_takesNumber cI cZ cQ cW z_o z_weight_a z_wants_a z_wantsMany_a z_st_a z_was_a z_images_a z_isKept_a z_told_a z_text_a z_saidWeight_a z_saidNights_a z_saidWants_a z_saidMany_a z_now_a z_gave_a z_at_a z_way_a z_bestWay_a z_made_a z_people z_known z_toldMany z_trace z_texted u.1 u.2.1 u.2.2.1 u.2.2.2.1 u.2.2.2.2 z_items z_saidPeople z_saidLaw z_ringed z_lumps z_text)) (fun r u => k r u.1 u.2.1 u.2.2.1 u.2.2.2.1 u.2.2.2.2 = some res) := by
  refine Ci.of (cc := cX8_takesNumber) (n := 5) (by decide +kernel) (Nat.le_of_ble_eq_true rfl) ?_
  intro p e s m args below meth c A ls Q B hW hE hS hl hQ
  have hx := B.1
  have hb := B.2.1
  have hl : lv_has ls 5 [(0, .ref z_o), (1, .int x1), (2, .int x2)] := hl
  unfold f_X8_takesNumber at h
  refine lv_aload_n (pc := 0) hx hb (tb_at tk_X8_takesNumber 0 rfl) rfl (lv_at hl 0 rfl) ?_
  refine k_get (pc := 1) (v := .int z_isWrong) (T := TX8) B inG8 hW 0 rfl rfl 18 (by decide) q_f_X8_99 rfl rfl (tb_at tk_X8_takesNumber 1 rfl) ?_
  have w32 : ∀ (s0_j32 : Int32) (H : Heap) (locs : List Loc) (ls : Array Slot), f_X8_takesNumber_j32 z_cursor z_start z_token z_number z_texted z_text k N s0_j32 = some res → PD (dC, dI) A (w_X8_takesNumber cI cZ cQ cW z_o z_weight_a z_wants_a z_wantsMany_a z_st_a z_was_a z_images_a z_isKept_a z_told_a z_text_a z_saidWeight_a z_saidNights_a z_saidWants_a z_saidMany_a z_now_a z_gave_a z_at_a z_way_a z_bestWay_a z_made_a z_people z_known z_toldMany z_trace z_texted z_cursor z_start z_token z_number z_isWrong z_items z_saidPeople z_saidLaw z_ringed z_lumps z_text) H → va_S A s.heap H locs → lv_has ls 5 [(0, .ref z_o)] → W p l e rm_X8_takesNumber s m args below meth c H locs 0 0 Q (F0 m 32 ls [.int s0_j32]) := by
    intro s0_j32 H locs ls h hW hS hl
    unfold f_X8_takesNumber_j32 at h
    refine lv_istore_n (pc := 32) (lv' := [(3, .int s0_j32), (0, .ref z_o)]) hx hb (tb_at tk_X8_takesNumber 16 rfl) rfl hl (by decide) rfl (fun ls hl => ?_)
    refine lv_aload_n (pc := 33) hx hb (tb_at tk_X8_takesNumber 17 rfl) rfl (lv_at hl 1 rfl) ?_
    refine lv_iload_n (pc := 34) hx hb (tb_at tk_X8_takesNumber 18 rfl) rfl (lv_at hl 0 rfl) ?_
    have w43 : ∀ (s1_j43 : Int32) (H : Heap) (locs : List Loc) (ls : Array Slot), f_X8_takesNumber_j43 z_cursor z_start z_token z_number z_texted z_text s0_j32 k N s1_j43 = some res → PD (dC, dI) A (w_X8_takesNumber cI cZ cQ cW z_o z_weight_a z_wants_a z_wantsMany_a z_st_a z_was_a z_images_a z_isKept_a z_told_a z_text_a z_saidWeight_a z_saidNights_a z_saidWants_a z_saidMany_a z_now_a z_gave_a z_at_a z_way_a z_bestWay_a z_made_a z_people z_known z_toldMany z_trace z_texted z_cursor z_start z_token z_number z_isWrong z_items z_saidPeople z_saidLaw z_ringed z_lumps z_text) H → va_S A s.heap H locs → lv_has ls 5 [(0, .ref z_o), (3, .int s0_j32)] → W p l e rm_X8_takesNumber s m args below meth c H locs 0 0 Q (F0 m 43 ls [.int s1_j43, .ref z_o]) := by
      intro s1_j43 H locs ls h hW hS hl
      unfold f_X8_takesNumber_j43 at h
      have zz := ck_l h
      have h := ck_r h
      refine k_put (pc := 43) (T := TX8) B inG8 tyX8 tyX8_ok nmX8 hW hS 0 rfl rfl 18 (by decide) q_f_X8_99 rfl rfl (isZ_n zz) (isZ_f zz) (Nat.le_of_ble_eq_true rfl) (tb_at tk_X8_takesNumber 23 rfl) (w_X8_takesNumber cI cZ cQ cW z_o z_weight_a z_wants_a z_wantsMany_a z_st_a z_was_a z_images_a z_isKept_a z_told_a z_text_a z_saidWeight_a z_saidNights_a z_saidWants_a z_saidMany_a z_now_a z_gave_a z_at_a z_way_a z_bestWay_a z_made_a z_people z_known z_toldMany z_trace z_texted z_cursor z_start z_token z_number s1_j43 z_items z_saidPeople z_saidLaw z_ringed z_lumps z_text) rfl (fun H locs hW hS => ?_)
      refine lv_aload_n (pc := 46) hx hb (tb_at tk_X8_takesNumber 24 rfl) rfl (lv_at hl 0 rfl) ?_
      refine k_get (pc := 47) (v := .int z_number) (T := TX8) B inG8 hW 0 rfl rfl 17 (by decide) q_f_X8_89 rfl rfl (tb_at tk_X8_takesNumber 25 rfl) ?_
      refine lv_istore (pc := 50) (lv' := [(4, .int z_number), (0, .ref z_o), (3, .int s0_j32)]) hx hb (tb_at tk_X8_takesNumber 26 rfl) hl (by decide) rfl (fun ls hl => ?_)
      refine lv_iload_n (pc := 52) hx hb (tb_at tk_X8_takesNumber 27 rfl) rfl (lv_at hl 2 rfl) ?_
      have w60 : ∀ (z_cursor_j60 : Int32) (z_start_j60 : Int32) (z_token_j60 : Int32) (z_number_j60 : Int32) (H : Heap) (locs : List Loc) (ls : Array Slot), f_X8_takesNumber_j60 z_number s0_j32 s1_j43 k z_cursor_j60 z_start_j60 z_token_j60 z_number_j60 = some res → PD (dC, dI) A (w_X8_takesNumber cI cZ cQ cW z_o z_weight_a z_wants_a z_wantsMany_a z_st_a z_was_a z_images_a z_isKept_a z_told_a z_text_a z_saidWeight_a z_saidNights_a z_saidWants_a z_saidMany_a z_now_a z_gave_a z_at_a z_way_a z_bestWay_a z_made_a z_people z_known z_toldMany z_trace z_texted z_cursor_j60 z_start_j60 z_token_j60 z_number_j60 s1_j43 z_items z_saidPeople z_saidLaw z_ringed z_lumps z_text) H → va_S A s.heap H locs → lv_has ls 5 [(3, .int s0_j32), (4, .int z_number)] → W p l e rm_X8_takesNumber s m args below meth c H locs 0 0 Q (F0 m 60 ls []) := by
        intro z_cursor_j60 z_start_j60 z_token_j60 z_number_j60 H locs ls h hW hS hl
        unfold f_X8_takesNumber_j60 at h
        refine lv_iload_n (pc := 60) hx hb (tb_at tk_X8_takesNumber 31 rfl) rfl (lv_at hl 0 rfl) ?_
        refine lv_if_eq (pc := 61) (tgt := 69) hx hb (tb_at tk_X8_takesNumber 32 rfl) (by decide) (fun cc => ?_) (fun cc => ?_)
        · have h := it_t cc h
          refine lv_iconst (pc := 69) (v := 0) hx hb (tb_at tk_X8_takesNumber 35 rfl) (by decide) ?_
          exact hQ 0 (z_cursor_j60, z_start_j60, z_token_j60, z_number_j60, s1_j43) _ _ _ 70 rfl h hW hS (tb_at tk_X8_takesNumber 36 rfl)
        · have h := it_f cc h
          refine lv_iload (pc := 64) hx hb (tb_at tk_X8_takesNumber 33 rfl) (lv_at hl 1 rfl) ?_
          refine lv_goto (pc := 66) (tgt := 70) hx hb (tb_at tk_X8_takesNumber 34 rfl) (by decide) ?_
          exact hQ z_number (z_cursor_j60, z_start_j60, z_token_j60, z_number_j60, s1_j43) _ _ _ 70 rfl h hW hS (tb_at tk_X8_takesNumber 36 rfl)
      refine lv_if_eq (pc := 53) (tgt := 60) hx hb (tb_at tk_X8_takesNumber 28 rfl) (by decide) (fun cc => ?_) (fun cc => ?_)
      · have h := it_t cc h
        exact w60 z_cursor z_start z_token z_number _ _ _ h hW hS (lv_sub hl [2, 0] rfl)
      · have h := it_f cc h
        refine lv_aload_n (pc := 56) hx hb (tb_at tk_X8_takesNumber 29 rfl) rfl (lv_at hl 1 rfl) ?_
        refine k_callv (pc := 57) B (k_runVv (rest := []) (C := RX8) B (c_X8_next l dC dI cI cZ cQ cW z_o z_weight_a z_wants_a z_wantsMany_a z_st_a z_was_a z_images_a z_isKept_a z_told_a z_text_a z_saidWeight_a z_saidNights_a z_saidWants_a z_saidMany_a z_now_a z_gave_a z_at_a z_way_a z_bestWay_a z_made_a z_people z_known z_toldMany z_trace z_texted z_cursor z_start z_token z_number s1_j43 z_items z_saidPeople z_saidLaw z_ringed z_lumps z_text  N _ res h) E0_st (fun _ _ _ => trivial) q_c_X8_next q_m_X8_103 q_i_X8_next q_s_X8_next q_n_X8 hd_X8_next ⟨rfl, rfl⟩ ⟨Nat.le_of_ble_eq_true rfl, Nat.le_of_ble_eq_true rfl⟩ hW [0, 1] rfl (by decide +kernel) (q0 := 0) (ci := 8) rfl rfl rfl hl.1 rfl (Nat.le_of_ble_eq_true rfl) (tb_at tk_X8_takesNumber 30 rfl) ⟨Nat.zero_le _, Nat.zero_le _⟩) hW hS [0, 1] rfl [z_o, z_text_a] rfl (fun _ => rfl) [some 0, some 1] (by decide +kernel) (fun u => (w_X8_takesNumber cI cZ cQ cW z_o z_weight_a z_wants_a z_wantsMany_a z_st_a z_was_a z_images_a z_isKept_a z_told_a z_text_a z_saidWeight_a z_saidNights_a z_saidWants_a z_saidMany_a z_now_a z_gave_a z_at_a z_way_a z_bestWay_a z_made_a z_people z_known z_toldMany z_trace z_texted u.1 u.2.1 u.2.2.1 u.2.2.2 s1_j43 z_items z_saidPeople z_saidLaw z_ringed z_lumps z_text)) (fun _ => rfl) (fun u H locs h hW hS => ?_)
        obtain ⟨z_cursor_57, z_start_57, z_token_57, z_number_57⟩ := u
        dsimp only at h
        have hW : PD (dC, dI) A (w_X8_takesNumber cI cZ cQ cW z_o z_weight_a z_wants_a z_wantsMany_a z_st_a z_was_a z_images_a z_isKept_a z_told_a z_text_a z_saidWeight_a z_saidNights_a z_saidWants_a z_saidMany_a z_now_a z_gave_a z_at_a z_way_a z_bestWay_a z_made_a z_people z_known z_toldMany z_trace z_texted z_cursor_57 z_start_57 z_token_57 z_number_57 s1_j43 z_items z_saidPeople z_saidLaw z_ringed z_lumps z_text) H := hW
        exact w60 z_cursor_57 z_start_57 z_token_57 z_number_57 _ _ _ h hW hS (lv_sub hl [2, 0] rfl)
    refine lv_if_ne (pc := 35) (tgt := 42) hx hb (tb_at tk_X8_takesNumber 19 rfl) (by decide) (fun cc => ?_) (fun cc => ?_)
    · have h := it_f cc h
      refine lv_iconst (pc := 42) (v := 0) hx hb (tb_at tk_X8_takesNumber 22 rfl) (by decide) ?_
      exact w43 0 _ _ _ h hW hS (lv_sub hl [1, 0] rfl)
    · have h := it_t cc h
      refine lv_iconst (pc := 38) (v := 1) hx hb (tb_at tk_X8_takesNumber 20 rfl) (by decide) ?_
      refine lv_goto (pc := 39) (tgt := 43) hx hb (tb_at tk_X8_takesNumber 21 rfl) (by decide) ?_
      exact w43 1 _ _ _ h hW hS (lv_sub hl [1, 0] rfl)
  have w31 : ∀ (H : Heap) (locs : List Loc) (ls : Array Slot), f_X8_takesNumber_j31 z_cursor z_start z_token z_number z_texted z_text k N = some res → PD (dC, dI) A (w_X8_takesNumber cI cZ cQ cW z_o z_weight_a z_wants_a z_wantsMany_a z_st_a z_was_a z_images_a z_isKept_a z_told_a z_text_a z_saidWeight_a z_saidNights_a z_saidWants_a z_saidMany_a z_now_a z_gave_a z_at_a z_way_a z_bestWay_a z_made_a z_people z_known z_toldMany z_trace z_texted z_cursor z_start z_token z_number z_isWrong z_items z_saidPeople z_saidLaw z_ringed z_lumps z_text) H → va_S A s.heap H locs → lv_has ls 5 [(0, .ref z_o)] → W p l e rm_X8_takesNumber s m args below meth c H locs 0 0 Q (F0 m 31 ls []) := by
    intro H locs ls h hW hS hl
    unfold f_X8_takesNumber_j31 at h
    refine lv_iconst (pc := 31) (v := 0) hx hb (tb_at tk_X8_takesNumber 15 rfl) (by decide) ?_
    exact w32 0 _ _ _ h hW hS (lv_sub hl [0] rfl)
  refine lv_if_ne (pc := 4) (tgt := 31) hx hb (tb_at tk_X8_takesNumber 2 rfl) (by decide) (fun cc => ?_) (fun cc => ?_)
  · have h := it_f cc h
    exact w31  _ _ _ h hW hS (lv_sub hl [0] rfl)
  · have h := it_t cc h
    refine lv_aload_n (pc := 7) hx hb (tb_at tk_X8_takesNumber 3 rfl) rfl (lv_at hl 0 rfl) ?_
    refine k_get (pc := 8) (v := .int z_token) (T := TX8) B inG8 hW 0 rfl rfl 16 (by decide) q_f_X8_92 rfl rfl (tb_at tk_X8_takesNumber 4 rfl) ?_
    refine lv_iconst (pc := 11) (v := 2) hx hb (tb_at tk_X8_takesNumber 5 rfl) (by decide) ?_
    refine lv_icmp_ne (pc := 12) (tgt := 31) hx hb (tb_at tk_X8_takesNumber 6 rfl) (by decide) (fun cc => ?_) (fun cc => ?_)
    · have h := it_f cc h
      exact w31  _ _ _ h hW hS (lv_sub hl [0] rfl)
    · have h := it_t cc h
      refine lv_aload_n (pc := 15) hx hb (tb_at tk_X8_takesNumber 7 rfl) rfl (lv_at hl 0 rfl) ?_
      refine k_get (pc := 16) (v := .int z_number) (T := TX8) B inG8 hW 0 rfl rfl 17 (by decide) q_f_X8_89 rfl rfl (tb_at tk_X8_takesNumber 8 rfl) ?_
      refine lv_iload_n (pc := 19) hx hb (tb_at tk_X8_takesNumber 9 rfl) rfl (lv_at hl 1 rfl) ?_
      refine lv_iload_n (pc := 20) hx hb (tb_at tk_X8_takesNumber 10 rfl) rfl (lv_at hl 2 rfl) ?_
      refine k_call0 (pc := 21) B (k_runSi (rest := []) (host := "") B (c_X8_in l dC dI cI cZ cQ cW   z_number x1 x2 N _ res h) E0_st (fun _ _ _ => trivial) q_c_X8_in q_m_X8_72 q_t_X8_in q_n_X8 hd_X8_in ⟨rfl, rfl⟩ ⟨Nat.le_of_ble_eq_true rfl, Nat.le_of_ble_eq_true rfl⟩ hW [] rfl (by decide +kernel) rfl hl.1 rfl (Nat.le_of_ble_eq_true rfl) (tb_at tk_X8_takesNumber 11 rfl) ⟨Nat.zero_le _, Nat.zero_le _⟩) hW hS (fun r21 u H locs h hW hS => ?_)
      refine lv_if_eq (pc := 24) (tgt := 31) hx hb (tb_at tk_X8_takesNumber 12 rfl) (by decide) (fun cc => ?_) (fun cc => ?_)
      · have h := it_t cc h
        exact w31  _ _ _ h hW hS (lv_sub hl [0] rfl)
      · have h := it_f cc h
        refine lv_iconst (pc := 27) (v := 1) hx hb (tb_at tk_X8_takesNumber 13 rfl) (by decide) ?_
        refine lv_goto (pc := 28) (tgt := 32) hx hb (tb_at tk_X8_takesNumber 14 rfl) (by decide) ?_
        exact w32 1 _ _ _ h hW hS (lv_sub hl [0] rfl)
def f_X8_readPerson {ρ : Type} (N : Nat) (z_texted : Int32) (z_cursor : Int32) (z_start : Int32) (z_token : Int32) (z_number : Int32) (z_isWrong : Int32) (z_saidPeople : Int32) (z_text : Nat → Int32) (z_saidWeight : Nat → Int32) (z_saidNights : Nat → Int32) (z_saidMany : Nat → Int32) (k : Int32 → Int32 → Int32 → Int32 → Int32 → Int32 → (Nat → Int32) → (Nat → Int32) → (Nat → Int32) → Option ρ) : Option ρ := f_X8_takesNumber N z_texted z_cursor z_start z_token z_number z_isWrong z_text 1 60 (fun r12 z_cursor_12 z_start_12 z_token_12 z_number_12 z_isWrong_12 => ck (ivi z_saidPeople 6) (f_X8_takesNumber N z_texted z_cursor_12 z_start_12 z_token_12 z_number_12 z_isWrong_12 z_text 1 9 (fun r28 z_cursor_28 z_start_28 z_token_28 z_number_28 z_isWrong_28 => ck (ivi z_saidPeople 6) (ck (ivi z_saidPeople 6) (k z_cursor_28 z_start_28 z_token_28 z_number_28 z_isWrong_28 (z_saidPeople + 1) (upd z_saidWeight (z_saidPeople).toNatClampNeg r12) (upd z_saidNights (z_saidPeople).toNatClampNeg r28) (upd z_saidMany (z_saidPeople).toNatClampNeg 0))))))
abbrev w_X8_readPerson (cI cZ cQ cW : ClassId) (z_o : Nat) (z_weight_a : Nat) (z_wants_a : Nat) (z_wantsMany_a : Nat) (z_st_a : Nat) (z_was_a : Nat) (z_images_a : Nat) (z_isKept_a : Nat) (z_told_a : Nat) (z_text_a : Nat) (z_saidWeight_a : Nat) (z_saidNights_a : Nat) (z_saidWants_a : Nat) (z_saidMany_a : Nat) (z_now_a : Nat) (z_gave_a : Nat) (z_at_a : Nat) (z_way_a : Nat) (z_bestWay_a : Nat) (z_made_a : Nat) (z_people : Int32) (z_known : Int32) (z_toldMany : Int32) (z_trace : Int64) (z_texted : Int32) (z_cursor : Int32) (z_start : Int32) (z_token : Int32) (z_number : Int32) (z_isWrong : Int32) (z_items : Int32) (z_saidPeople : Int32) (z_saidLaw : Int32) (z_ringed : Int32) (z_lumps : Int32) (z_text : Nat → Int32) (z_saidWeight : Nat → Int32) (z_saidNights : Nat → Int32) (z_saidMany : Nat → Int32) : va_W := [(z_o, .inr (8, [.int z_people, .ref z_weight_a, .ref z_wants_a, .ref z_wantsMany_a, .ref z_st_a, .ref z_was_a, .int z_known, .ref z_images_a, .ref z_isKept_a, .int z_toldMany, .ref z_told_a, .long z_trace, .ref z_text_a, .int z_texted, .int z_cursor, .int z_start, .int z_token, .int z_number, .int z_isWrong, .int z_items, .int z_saidPeople, .ref z_saidWeight_a, .ref z_saidNights_a, .ref z_saidWants_a, .ref z_saidMany_a, .int z_saidLaw, .ref z_now_a, .ref z_gave_a, .ref z_at_a, .int z_ringed, .int z_lumps, .ref z_way_a, .ref z_bestWay_a, .ref z_made_a])), (z_text_a, .inl (cI, 150, .inl z_text)), (z_saidWeight_a, .inl (cI, 6, .inl z_saidWeight)), (z_saidNights_a, .inl (cI, 6, .inl z_saidNights)), (z_saidMany_a, .inl (cI, 6, .inl z_saidMany))]
abbrev rm_X8_readPerson : Room := { frames := 4, cells := 0, slots := 0, locals := 87 }
set_option maxHeartbeats 4000000 in
set_option maxRecDepth 100000 in
theorem c_X8_readPerson (l : Launch) (dC : Nat → ClassId) (dI : Nat → Nat → Nat) (cI cZ cQ cW : ClassId) (z_o : Nat) (z_weight_a : Nat) (z_wants_a : Nat) (z_wantsMany_a : Nat) (z_st_a : Nat) (z_was_a : Nat) (z_images_a : Nat) (z_isKept_a : Nat) (z_told_a : Nat) (z_text_a : Nat) (z_saidWeight_a : Nat) (z_saidNights_a : Nat) (z_saidWants_a : Nat) (z_saidMany_a : Nat) (z_now_a : Nat) (z_gave_a : Nat) (z_at_a : Nat) (z_way_a : Nat) (z_bestWay_a : Nat) (z_made_a : Nat) (z_people : Int32) (z_known : Int32) (z_toldMany : Int32) (z_trace : Int64) (z_texted : Int32) (z_cursor : Int32) (z_start : Int32) (z_token : Int32) (z_number : Int32) (z_isWrong : Int32) (z_items : Int32) (z_saidPeople : Int32) (z_saidLaw : Int32) (z_ringed : Int32) (z_lumps : Int32) (z_text : Nat → Int32) (z_saidWeight : Nat → Int32) (z_saidNights : Nat → Int32) (z_saidMany : Nat → Int32) {ρ : Type} (N : Nat) (k : Int32 → Int32 → Int32 → Int32 → Int32 → Int32 → (Nat → Int32) → (Nat → Int32) → (Nat → Int32) → Option ρ) (res : ρ) (h : f_X8_readPerson N z_texted z_cursor z_start z_token z_number z_isWrong z_saidPeople z_text z_saidWeight z_saidNights z_saidMany k = some res) : Cv l yX8_readPerson (WS yX8_readPerson cX8_readPerson 1 none) rm_X8_readPerson (dC, dI) (tysG cI cZ cQ cW) E0 [.ref z_o] (w_X8_readPerson cI cZ cQ cW z_o z_weight_a z_wants_a z_wantsMany_a z_st_a z_was_a z_images_a z_isKept_a z_told_a z_text_a z_saidWeight_a z_saidNights_a z_saidWants_a z_saidMany_a z_now_a z_gave_a z_at_a z_way_a z_bestWay_a z_made_a z_people z_known z_toldMany z_trace z_texted z_cursor z_start z_token z_number z_isWrong z_items z_saidPeople z_saidLaw z_ringed z_lumps z_text z_saidWeight z_saidNights z_saidMany) (fun (u : Int32 × Int32 × Int32 × Int32 × Int32 × Int32 × (Nat → Int32) × (Nat → Int32) × (Nat → Int32)) => (w_X8_readPerson cI cZ cQ cW z_o z_weight_a z_wants_a z_wantsMany_a z_st_a z_was_a z_images_a z_isKept_a z_told_a z_text_a z_saidWeight_a z_saidNights_a z_saidWants_a z_saidMany_a z_now_a z_gave_a z_at_a z_way_a z_bestWay_a z_made_a z_people z_known z_toldMany z_trace z_texted u.1 u.2.1 u.2.2.1 u.2.2.2.1 u.2.2.2.2.1 z_items u.2.2.2.2.2.1 z_saidLaw z_ringed z_lumps z_text u.2.2.2.2.2.2.1 u.2.2.2.2.2.2.2.1 u.2.2.2.2.2.2.2.2)) (fun u => k u.1 u.2.1 u.2.2.1 u.2.2.2.1 u.2.2.2.2.1 u.2.2.2.2.2.1 u.2.2.2.2.2.2.1 u.2.2.2.2.2.2.2.1 u.2.2.2.2.2.2.2.2 = some res) := by
  refine Cv.of (cc := cX8_readPerson) (n := 1) (by decide +kernel) (Nat.le_of_ble_eq_true rfl) ?_
  intro p e s m args below meth c A ls Q B hW hE hS hl hQ
  have hx := B.1
  have hb := B.2.1
  have hl : lv_has ls 1 [(0, .ref z_o)] := hl
  unfold f_X8_readPerson at h
  refine lv_aload_n (pc := 0) hx hb (tb_at tk_X8_readPerson 0 rfl) rfl (lv_at hl 0 rfl) ?_
  refine k_get (pc := 1) (v := .ref z_saidWeight_a) (T := TX8) B inG8 hW 0 rfl rfl 21 (by decide) q_f_X8_38 rfl rfl (tb_at tk_X8_readPerson 1 rfl) ?_
  refine lv_aload_n (pc := 4) hx hb (tb_at tk_X8_readPerson 2 rfl) rfl (lv_at hl 0 rfl) ?_
  refine k_get (pc := 5) (v := .int z_saidPeople) (T := TX8) B inG8 hW 0 rfl rfl 20 (by decide) q_f_X8_106 rfl rfl (tb_at tk_X8_readPerson 3 rfl) ?_
  refine lv_aload_n (pc := 8) hx hb (tb_at tk_X8_readPerson 4 rfl) rfl (lv_at hl 0 rfl) ?_
  refine lv_iconst (pc := 9) (v := 1) hx hb (tb_at tk_X8_readPerson 5 rfl) (by decide) ?_
  refine lv_bipush (pc := 10) (v := 60) hx hb (tb_at tk_X8_readPerson 6 rfl) (by decide) ?_
  refine k_calli (pc := 12) B (k_runVi (rest := [.int z_saidPeople, .ref z_saidWeight_a]) (C := RX8) B (c_X8_takesNumber l dC dI cI cZ cQ cW z_o z_weight_a z_wants_a z_wantsMany_a z_st_a z_was_a z_images_a z_isKept_a z_told_a z_text_a z_saidWeight_a z_saidNights_a z_saidWants_a z_saidMany_a z_now_a z_gave_a z_at_a z_way_a z_bestWay_a z_made_a z_people z_known z_toldMany z_trace z_texted z_cursor z_start z_token z_number z_isWrong z_items z_saidPeople z_saidLaw z_ringed z_lumps z_text 1 60 N _ res h) E0_st (fun _ _ _ => trivial) q_c_X8_takesNumber q_m_X8_109 q_i_X8_takesNumber q_s_X8_takesNumber q_n_X8 hd_X8_takesNumber ⟨rfl, rfl⟩ ⟨Nat.le_of_ble_eq_true rfl, Nat.le_of_ble_eq_true rfl⟩ hW [0, 1] rfl (by decide +kernel) (q0 := 0) (ci := 8) rfl rfl rfl hl.1 rfl (Nat.le_of_ble_eq_true rfl) (tb_at tk_X8_readPerson 7 rfl) ⟨Nat.zero_le _, Nat.zero_le _⟩) hW hS [0, 1] rfl [z_o, z_text_a] rfl (fun _ => rfl) [some 0, some 1, none, none, none] (by decide +kernel) (fun u => (w_X8_readPerson cI cZ cQ cW z_o z_weight_a z_wants_a z_wantsMany_a z_st_a z_was_a z_images_a z_isKept_a z_told_a z_text_a z_saidWeight_a z_saidNights_a z_saidWants_a z_saidMany_a z_now_a z_gave_a z_at_a z_way_a z_bestWay_a z_made_a z_people z_known z_toldMany z_trace z_texted u.1 u.2.1 u.2.2.1 u.2.2.2.1 u.2.2.2.2 z_items z_saidPeople z_saidLaw z_ringed z_lumps z_text z_saidWeight z_saidNights z_saidMany)) (fun _ => rfl) (fun r12 u H locs h hW hS => ?_)
  obtain ⟨z_cursor_12, z_start_12, z_token_12, z_number_12, z_isWrong_12⟩ := u
  dsimp only at h
  have hW : PD (dC, dI) A (w_X8_readPerson cI cZ cQ cW z_o z_weight_a z_wants_a z_wantsMany_a z_st_a z_was_a z_images_a z_isKept_a z_told_a z_text_a z_saidWeight_a z_saidNights_a z_saidWants_a z_saidMany_a z_now_a z_gave_a z_at_a z_way_a z_bestWay_a z_made_a z_people z_known z_toldMany z_trace z_texted z_cursor_12 z_start_12 z_token_12 z_number_12 z_isWrong_12 z_items z_saidPeople z_saidLaw z_ringed z_lumps z_text z_saidWeight z_saidNights z_saidMany) H := hW
  have ii := ivi_in (ck_l h)
  have h := ck_r h
  refine k_iast (pc := 15) B hW hS 2 0 rfl rfl ii (tb_at tk_X8_readPerson 8 rfl) (w_X8_readPerson cI cZ cQ cW z_o z_weight_a z_wants_a z_wantsMany_a z_st_a z_was_a z_images_a z_isKept_a z_told_a z_text_a z_saidWeight_a z_saidNights_a z_saidWants_a z_saidMany_a z_now_a z_gave_a z_at_a z_way_a z_bestWay_a z_made_a z_people z_known z_toldMany z_trace z_texted z_cursor_12 z_start_12 z_token_12 z_number_12 z_isWrong_12 z_items z_saidPeople z_saidLaw z_ringed z_lumps z_text (upd z_saidWeight (z_saidPeople).toNatClampNeg r12) z_saidNights z_saidMany) rfl (fun H locs hW hS => ?_)
  refine lv_aload_n (pc := 16) hx hb (tb_at tk_X8_readPerson 9 rfl) rfl (lv_at hl 0 rfl) ?_
  refine k_get (pc := 17) (v := .ref z_saidNights_a) (T := TX8) B inG8 hW 0 rfl rfl 22 (by decide) q_f_X8_41 rfl rfl (tb_at tk_X8_readPerson 10 rfl) ?_
  refine lv_aload_n (pc := 20) hx hb (tb_at tk_X8_readPerson 11 rfl) rfl (lv_at hl 0 rfl) ?_
  refine k_get (pc := 21) (v := .int z_saidPeople) (T := TX8) B inG8 hW 0 rfl rfl 20 (by decide) q_f_X8_106 rfl rfl (tb_at tk_X8_readPerson 12 rfl) ?_
  refine lv_aload_n (pc := 24) hx hb (tb_at tk_X8_readPerson 13 rfl) rfl (lv_at hl 0 rfl) ?_
  refine lv_iconst (pc := 25) (v := 1) hx hb (tb_at tk_X8_readPerson 14 rfl) (by decide) ?_
  refine lv_bipush (pc := 26) (v := 9) hx hb (tb_at tk_X8_readPerson 15 rfl) (by decide) ?_
  refine k_calli (pc := 28) B (k_runVi (rest := [.int z_saidPeople, .ref z_saidNights_a]) (C := RX8) B (c_X8_takesNumber l dC dI cI cZ cQ cW z_o z_weight_a z_wants_a z_wantsMany_a z_st_a z_was_a z_images_a z_isKept_a z_told_a z_text_a z_saidWeight_a z_saidNights_a z_saidWants_a z_saidMany_a z_now_a z_gave_a z_at_a z_way_a z_bestWay_a z_made_a z_people z_known z_toldMany z_trace z_texted z_cursor_12 z_start_12 z_token_12 z_number_12 z_isWrong_12 z_items z_saidPeople z_saidLaw z_ringed z_lumps z_text 1 9 N _ res h) E0_st (fun _ _ _ => trivial) q_c_X8_takesNumber q_m_X8_109 q_i_X8_takesNumber q_s_X8_takesNumber q_n_X8 hd_X8_takesNumber ⟨rfl, rfl⟩ ⟨Nat.le_of_ble_eq_true rfl, Nat.le_of_ble_eq_true rfl⟩ hW [0, 1] rfl (by decide +kernel) (q0 := 0) (ci := 8) rfl rfl rfl hl.1 rfl (Nat.le_of_ble_eq_true rfl) (tb_at tk_X8_readPerson 16 rfl) ⟨Nat.zero_le _, Nat.zero_le _⟩) hW hS [0, 1] rfl [z_o, z_text_a] rfl (fun _ => rfl) [some 0, some 1, none, none, none] (by decide +kernel) (fun u => (w_X8_readPerson cI cZ cQ cW z_o z_weight_a z_wants_a z_wantsMany_a z_st_a z_was_a z_images_a z_isKept_a z_told_a z_text_a z_saidWeight_a z_saidNights_a z_saidWants_a z_saidMany_a z_now_a z_gave_a z_at_a z_way_a z_bestWay_a z_made_a z_people z_known z_toldMany z_trace z_texted u.1 u.2.1 u.2.2.1 u.2.2.2.1 u.2.2.2.2 z_items z_saidPeople z_saidLaw z_ringed z_lumps z_text (upd z_saidWeight (z_saidPeople).toNatClampNeg r12) z_saidNights z_saidMany)) (fun _ => rfl) (fun r28 u H locs h hW hS => ?_)
  obtain ⟨z_cursor_28, z_start_28, z_token_28, z_number_28, z_isWrong_28⟩ := u
  dsimp only at h
  have hW : PD (dC, dI) A (w_X8_readPerson cI cZ cQ cW z_o z_weight_a z_wants_a z_wantsMany_a z_st_a z_was_a z_images_a z_isKept_a z_told_a z_text_a z_saidWeight_a z_saidNights_a z_saidWants_a z_saidMany_a z_now_a z_gave_a z_at_a z_way_a z_bestWay_a z_made_a z_people z_known z_toldMany z_trace z_texted z_cursor_28 z_start_28 z_token_28 z_number_28 z_isWrong_28 z_items z_saidPeople z_saidLaw z_ringed z_lumps z_text (upd z_saidWeight (z_saidPeople).toNatClampNeg r12) z_saidNights z_saidMany) H := hW
  have ii := ivi_in (ck_l h)
  have h := ck_r h
  refine k_iast (pc := 31) B hW hS 3 0 rfl rfl ii (tb_at tk_X8_readPerson 17 rfl) (w_X8_readPerson cI cZ cQ cW z_o z_weight_a z_wants_a z_wantsMany_a z_st_a z_was_a z_images_a z_isKept_a z_told_a z_text_a z_saidWeight_a z_saidNights_a z_saidWants_a z_saidMany_a z_now_a z_gave_a z_at_a z_way_a z_bestWay_a z_made_a z_people z_known z_toldMany z_trace z_texted z_cursor_28 z_start_28 z_token_28 z_number_28 z_isWrong_28 z_items z_saidPeople z_saidLaw z_ringed z_lumps z_text (upd z_saidWeight (z_saidPeople).toNatClampNeg r12) (upd z_saidNights (z_saidPeople).toNatClampNeg r28) z_saidMany) rfl (fun H locs hW hS => ?_)
  refine lv_aload_n (pc := 32) hx hb (tb_at tk_X8_readPerson 18 rfl) rfl (lv_at hl 0 rfl) ?_
  refine k_get (pc := 33) (v := .ref z_saidMany_a) (T := TX8) B inG8 hW 0 rfl rfl 24 (by decide) q_f_X8_47 rfl rfl (tb_at tk_X8_readPerson 19 rfl) ?_
  refine lv_aload_n (pc := 36) hx hb (tb_at tk_X8_readPerson 20 rfl) rfl (lv_at hl 0 rfl) ?_
  refine k_get (pc := 37) (v := .int z_saidPeople) (T := TX8) B inG8 hW 0 rfl rfl 20 (by decide) q_f_X8_106 rfl rfl (tb_at tk_X8_readPerson 21 rfl) ?_
  refine lv_iconst (pc := 40) (v := 0) hx hb (tb_at tk_X8_readPerson 22 rfl) (by decide) ?_
  have ii := ivi_in (ck_l h)
  have h := ck_r h
  refine k_iast (pc := 41) B hW hS 4 0 rfl rfl ii (tb_at tk_X8_readPerson 23 rfl) (w_X8_readPerson cI cZ cQ cW z_o z_weight_a z_wants_a z_wantsMany_a z_st_a z_was_a z_images_a z_isKept_a z_told_a z_text_a z_saidWeight_a z_saidNights_a z_saidWants_a z_saidMany_a z_now_a z_gave_a z_at_a z_way_a z_bestWay_a z_made_a z_people z_known z_toldMany z_trace z_texted z_cursor_28 z_start_28 z_token_28 z_number_28 z_isWrong_28 z_items z_saidPeople z_saidLaw z_ringed z_lumps z_text (upd z_saidWeight (z_saidPeople).toNatClampNeg r12) (upd z_saidNights (z_saidPeople).toNatClampNeg r28) (upd z_saidMany (z_saidPeople).toNatClampNeg 0)) rfl (fun H locs hW hS => ?_)
  refine lv_aload_n (pc := 42) hx hb (tb_at tk_X8_readPerson 24 rfl) rfl (lv_at hl 0 rfl) ?_
  refine lv_dup (pc := 43) hx hb (tb_at tk_X8_readPerson 25 rfl) rfl ?_
  refine k_get (pc := 44) (v := .int z_saidPeople) (T := TX8) B inG8 hW 0 rfl rfl 20 (by decide) q_f_X8_106 rfl rfl (tb_at tk_X8_readPerson 26 rfl) ?_
  refine lv_iconst (pc := 47) (v := 1) hx hb (tb_at tk_X8_readPerson 27 rfl) (by decide) ?_
  refine lv_iadd (pc := 48) hx hb (tb_at tk_X8_readPerson 28 rfl) ?_
  refine k_put (pc := 49) (T := TX8) B inG8 tyX8 tyX8_ok nmX8 hW hS 0 rfl rfl 20 (by decide) q_f_X8_106 rfl rfl rfl rfl (Nat.le_of_ble_eq_true rfl) (tb_at tk_X8_readPerson 29 rfl) (w_X8_readPerson cI cZ cQ cW z_o z_weight_a z_wants_a z_wantsMany_a z_st_a z_was_a z_images_a z_isKept_a z_told_a z_text_a z_saidWeight_a z_saidNights_a z_saidWants_a z_saidMany_a z_now_a z_gave_a z_at_a z_way_a z_bestWay_a z_made_a z_people z_known z_toldMany z_trace z_texted z_cursor_28 z_start_28 z_token_28 z_number_28 z_isWrong_28 z_items (z_saidPeople + 1) z_saidLaw z_ringed z_lumps z_text (upd z_saidWeight (z_saidPeople).toNatClampNeg r12) (upd z_saidNights (z_saidPeople).toNatClampNeg r28) (upd z_saidMany (z_saidPeople).toNatClampNeg 0)) rfl (fun H locs hW hS => ?_)
  exact hQ (z_cursor_28, z_start_28, z_token_28, z_number_28, z_isWrong_28, z_saidPeople + 1, upd z_saidWeight (z_saidPeople).toNatClampNeg r12, upd z_saidNights (z_saidPeople).toNatClampNeg r28, upd z_saidMany (z_saidPeople).toNatClampNeg 0) _ _ _ 52 h hW hS (tb_at tk_X8_readPerson 30 rfl)
def f_X8_readWants_e115 {ρ : Type} (z_saidMany : Nat → Int32) (r8 : Int32) (k : Int32 → Int32 → Int32 → Int32 → Int32 → (Nat → Int32) → (Nat → Int32) → Option ρ) (y3_e115 : Int32) (z_cursor_e115 : Int32) (z_start_e115 : Int32) (z_token_e115 : Int32) (z_number_e115 : Int32) (z_isWrong_e115 : Int32) (z_saidWants_e115 : Nat → Int32) : Option ρ := ck (ivi r8 6) (k z_cursor_e115 z_start_e115 z_token_e115 z_number_e115 z_isWrong_e115 z_saidWants_e115 (upd z_saidMany (r8).toNatClampNeg y3_e115))
def f_X8_readWants_j72 {ρ : Type} (z_texted : Int32) (z_text : Nat → Int32) (r8 : Int32) (y2_l16 : Int32) (y3_l16 : Int32) (z_cursor_l16 : Int32) (z_start_l16 : Int32) (z_token_l16 : Int32) (z_number_l16 : Int32) (z_saidWants_l16 : Nat → Int32) (kb16 : Int32 → Int32 → Int32 → Int32 → Int32 → Int32 → Int32 → (Nat → Int32) → Option ρ) (N : Nat) (s1_j72 : Int32) : Option ρ := ck (isZ s1_j72) (if s1_j72 = 0 then (ck (ivi (((4 : Int32) * r8) + y3_l16) 24) (f_X8_next N z_texted z_cursor_l16 z_text (fun z_cursor_109 z_start_109 z_token_109 z_number_109 => kb16 (y2_l16 ||| ((1 : Int32) <<< (z_number_l16 &&& 31))) (y3_l16 + 1) z_cursor_109 z_start_109 z_token_109 z_number_109 s1_j72 (upd z_saidWants_l16 (((4 : Int32) * r8) + y3_l16).toNatClampNeg z_number_l16)))) else (kb16 y2_l16 y3_l16 z_cursor_l16 z_start_l16 z_token_l16 z_number_l16 s1_j72 z_saidWants_l16))
def f_X8_readWants_j67 {ρ : Type} (z_texted : Int32) (z_text : Nat → Int32) (r8 : Int32) (y2_l16 : Int32) (y3_l16 : Int32) (z_cursor_l16 : Int32) (z_start_l16 : Int32) (z_token_l16 : Int32) (z_number_l16 : Int32) (z_saidWants_l16 : Nat → Int32) (kb16 : Int32 → Int32 → Int32 → Int32 → Int32 → Int32 → Int32 → (Nat → Int32) → Option ρ) (N : Nat) : Option ρ := f_X8_readWants_j72 z_texted z_text r8 y2_l16 y3_l16 z_cursor_l16 z_start_l16 z_token_l16 z_number_l16 z_saidWants_l16 kb16 N 1
def f_X8_readWants_l16 {ρ : Type} (z_texted : Int32) (z_saidPeople : Int32) (z_text : Nat → Int32) (r8 : Int32) (k115 : Int32 → Int32 → Int32 → Int32 → Int32 → Int32 → (Nat → Int32) → Option ρ) (N : Nat) : Nat → Int32 → Int32 → Int32 → Int32 → Int32 → Int32 → Int32 → (Nat → Int32) → Option ρ
  | 0, _, _, _, _, _, _, _, _ => none
  | n16 + 1, y2_l16, y3_l16, z_cursor_l16, z_start_l16, z_token_l16, z_number_l16, z_isWrong_l16, z_saidWants_l16 => if z_isWrong_l16 = 0 then (if z_token_l16 = 3 then (k115 y3_l16 z_cursor_l16 z_start_l16 z_token_l16 z_number_l16 z_isWrong_l16 z_saidWants_l16) else (if y3_l16 = 4 then (f_X8_readWants_j67 z_texted z_text r8 y2_l16 y3_l16 z_cursor_l16 z_start_l16 z_token_l16 z_number_l16 z_saidWants_l16 (f_X8_readWants_l16 z_texted z_saidPeople z_text r8 k115 N n16) N ) else (if z_token_l16 = 2 then (if z_saidPeople ≤ z_number_l16 then (f_X8_readWants_j67 z_texted z_text r8 y2_l16 y3_l16 z_cursor_l16 z_start_l16 z_token_l16 z_number_l16 z_saidWants_l16 (f_X8_readWants_l16 z_texted z_saidPeople z_text r8 k115 N n16) N ) else (f_X8_has N y2_l16 z_number_l16 (fun r61 => if r61 = 0 then (f_X8_readWants_j72 z_texted z_text r8 y2_l16 y3_l16 z_cursor_l16 z_start_l16 z_token_l16 z_number_l16 z_saidWants_l16 (f_X8_readWants_l16 z_texted z_saidPeople z_text r8 k115 N n16) N 0) else (f_X8_readWants_j67 z_texted z_text r8 y2_l16 y3_l16 z_cursor_l16 z_start_l16 z_token_l16 z_number_l16 z_saidWants_l16 (f_X8_readWants_l16 z_texted z_saidPeople z_text r8 k115 N n16) N )))) else (f_X8_readWants_j67 z_texted z_text r8 y2_l16 y3_l16 z_cursor_l16 z_start_l16 z_token_l16 z_number_l16 z_saidWants_l16 (f_X8_readWants_l16 z_texted z_saidPeople z_text r8 k115 N n16) N )))) else (k115 y3_l16 z_cursor_l16 z_start_l16 z_token_l16 z_number_l16 z_isWrong_l16 z_saidWants_l16)
def f_X8_readWants {ρ : Type} (N : Nat) (z_texted : Int32) (z_cursor : Int32) (z_start : Int32) (z_token : Int32) (z_number : Int32) (z_isWrong : Int32) (z_saidPeople : Int32) (z_text : Nat → Int32) (z_saidWants : Nat → Int32) (z_saidMany : Nat → Int32) (k : Int32 → Int32 → Int32 → Int32 → Int32 → (Nat → Int32) → (Nat → Int32) → Option ρ) : Option ρ := f_X8_takesNumber N z_texted z_cursor z_start z_token z_number z_isWrong z_text 0 (z_saidPeople - 1) (fun r8 z_cursor_8 z_start_8 z_token_8 z_number_8 z_isWrong_8 => f_X8_readWants_l16 z_texted z_saidPeople z_text r8 (fun y3_e115 z_cursor_e115 z_start_e115 z_token_e115 z_number_e115 z_isWrong_e115 z_saidWants_e115 => f_X8_readWants_e115 z_saidMany r8 k y3_e115 z_cursor_e115 z_start_e115 z_token_e115 z_number_e115 z_isWrong_e115 z_saidWants_e115) N N 0 0 z_cursor_8 z_start_8 z_token_8 z_number_8 z_isWrong_8 z_saidWants)
abbrev w_X8_readWants (cI cZ cQ cW : ClassId) (z_o : Nat) (z_weight_a : Nat) (z_wants_a : Nat) (z_wantsMany_a : Nat) (z_st_a : Nat) (z_was_a : Nat) (z_images_a : Nat) (z_isKept_a : Nat) (z_told_a : Nat) (z_text_a : Nat) (z_saidWeight_a : Nat) (z_saidNights_a : Nat) (z_saidWants_a : Nat) (z_saidMany_a : Nat) (z_now_a : Nat) (z_gave_a : Nat) (z_at_a : Nat) (z_way_a : Nat) (z_bestWay_a : Nat) (z_made_a : Nat) (z_people : Int32) (z_known : Int32) (z_toldMany : Int32) (z_trace : Int64) (z_texted : Int32) (z_cursor : Int32) (z_start : Int32) (z_token : Int32) (z_number : Int32) (z_isWrong : Int32) (z_items : Int32) (z_saidPeople : Int32) (z_saidLaw : Int32) (z_ringed : Int32) (z_lumps : Int32) (z_text : Nat → Int32) (z_saidWants : Nat → Int32) (z_saidMany : Nat → Int32) : va_W := [(z_o, .inr (8, [.int z_people, .ref z_weight_a, .ref z_wants_a, .ref z_wantsMany_a, .ref z_st_a, .ref z_was_a, .int z_known, .ref z_images_a, .ref z_isKept_a, .int z_toldMany, .ref z_told_a, .long z_trace, .ref z_text_a, .int z_texted, .int z_cursor, .int z_start, .int z_token, .int z_number, .int z_isWrong, .int z_items, .int z_saidPeople, .ref z_saidWeight_a, .ref z_saidNights_a, .ref z_saidWants_a, .ref z_saidMany_a, .int z_saidLaw, .ref z_now_a, .ref z_gave_a, .ref z_at_a, .int z_ringed, .int z_lumps, .ref z_way_a, .ref z_bestWay_a, .ref z_made_a])), (z_text_a, .inl (cI, 150, .inl z_text)), (z_saidWants_a, .inl (cI, 24, .inl z_saidWants)), (z_saidMany_a, .inl (cI, 6, .inl z_saidMany))]
abbrev rm_X8_readWants : Room := { frames := 4, cells := 0, slots := 0, locals := 87 }
set_option maxHeartbeats 4000000 in
set_option maxRecDepth 100000 in
theorem c_X8_readWants (l : Launch) (dC : Nat → ClassId) (dI : Nat → Nat → Nat) (cI cZ cQ cW : ClassId) (z_o : Nat) (z_weight_a : Nat) (z_wants_a : Nat) (z_wantsMany_a : Nat) (z_st_a : Nat) (z_was_a : Nat) (z_images_a : Nat) (z_isKept_a : Nat) (z_told_a : Nat) (z_text_a : Nat) (z_saidWeight_a : Nat) (z_saidNights_a : Nat) (z_saidWants_a : Nat) (z_saidMany_a : Nat) (z_now_a : Nat) (z_gave_a : Nat) (z_at_a : Nat) (z_way_a : Nat) (z_bestWay_a : Nat) (z_made_a : Nat) (z_people : Int32) (z_known : Int32) (z_toldMany : Int32) (z_trace : Int64) (z_texted : Int32) (z_cursor : Int32) (z_start : Int32) (z_token : Int32) (z_number : Int32) (z_isWrong : Int32) (z_items : Int32) (z_saidPeople : Int32) (z_saidLaw : Int32) (z_ringed : Int32) (z_lumps : Int32) (z_text : Nat → Int32) (z_saidWants : Nat → Int32) (z_saidMany : Nat → Int32) {ρ : Type} (N : Nat) (k : Int32 → Int32 → Int32 → Int32 → Int32 → (Nat → Int32) → (Nat → Int32) → Option ρ) (res : ρ) (h : f_X8_readWants N z_texted z_cursor z_start z_token z_number z_isWrong z_saidPeople z_text z_saidWants z_saidMany k = some res) : Cv l yX8_readWants (WS yX8_readWants cX8_readWants 4 none) rm_X8_readWants (dC, dI) (tysG cI cZ cQ cW) E0 [.ref z_o] (w_X8_readWants cI cZ cQ cW z_o z_weight_a z_wants_a z_wantsMany_a z_st_a z_was_a z_images_a z_isKept_a z_told_a z_text_a z_saidWeight_a z_saidNights_a z_saidWants_a z_saidMany_a z_now_a z_gave_a z_at_a z_way_a z_bestWay_a z_made_a z_people z_known z_toldMany z_trace z_texted z_cursor z_start z_token z_number z_isWrong z_items z_saidPeople z_saidLaw z_ringed z_lumps z_text z_saidWants z_saidMany) (fun (u : Int32 × Int32 × Int32 × Int32 × Int32 × (Nat → Int32) × (Nat → Int32)) => (w_X8_readWants cI cZ cQ cW z_o z_weight_a z_wants_a z_wantsMany_a z_st_a z_was_a z_images_a z_isKept_a z_told_a z_text_a z_saidWeight_a z_saidNights_a z_saidWants_a z_saidMany_a z_now_a z_gave_a z_at_a z_way_a z_bestWay_a z_made_a z_people z_known z_toldMany z_trace z_texted u.1 u.2.1 u.2.2.1 u.2.2.2.1 u.2.2.2.2.1 z_items z_saidPeople z_saidLaw z_ringed z_lumps z_text u.2.2.2.2.2.1 u.2.2.2.2.2.2)) (fun u => k u.1 u.2.1 u.2.2.1 u.2.2.2.1 u.2.2.2.2.1 u.2.2.2.2.2.1 u.2.2.2.2.2.2 = some res) := by
  refine Cv.of (cc := cX8_readWants) (n := 4) (by decide +kernel) (Nat.le_of_ble_eq_true rfl) ?_
  intro p e s m args below meth c A ls Q B hW hE hS hl hQ
  have hx := B.1
  have hb := B.2.1
  have hl : lv_has ls 4 [(0, .ref z_o)] := hl
  unfold f_X8_readWants at h
  refine lv_aload_n (pc := 0) hx hb (tb_at tk_X8_readWants 0 rfl) rfl (lv_at hl 0 rfl) ?_
  refine lv_iconst (pc := 1) (v := 0) hx hb (tb_at tk_X8_readWants 1 rfl) (by decide) ?_
  refine lv_aload_n (pc := 2) hx hb (tb_at tk_X8_readWants 2 rfl) rfl (lv_at hl 0 rfl) ?_
  refine k_get (pc := 3) (v := .int z_saidPeople) (T := TX8) B inG8 hW 0 rfl rfl 20 (by decide) q_f_X8_106 rfl rfl (tb_at tk_X8_readWants 3 rfl) ?_
  refine lv_iconst (pc := 6) (v := 1) hx hb (tb_at tk_X8_readWants 4 rfl) (by decide) ?_
  refine lv_isub (pc := 7) hx hb (tb_at tk_X8_readWants 5 rfl) ?_
  refine k_calli (pc := 8) B (k_runVi (rest := []) (C := RX8) B (c_X8_takesNumber l dC dI cI cZ cQ cW z_o z_weight_a z_wants_a z_wantsMany_a z_st_a z_was_a z_images_a z_isKept_a z_told_a z_text_a z_saidWeight_a z_saidNights_a z_saidWants_a z_saidMany_a z_now_a z_gave_a z_at_a z_way_a z_bestWay_a z_made_a z_people z_known z_toldMany z_trace z_texted z_cursor z_start z_token z_number z_isWrong z_items z_saidPeople z_saidLaw z_ringed z_lumps z_text 0 (z_saidPeople - 1) N _ res h) E0_st (fun _ _ _ => trivial) q_c_X8_takesNumber q_m_X8_109 q_i_X8_takesNumber q_s_X8_takesNumber q_n_X8 hd_X8_takesNumber ⟨rfl, rfl⟩ ⟨Nat.le_of_ble_eq_true rfl, Nat.le_of_ble_eq_true rfl⟩ hW [0, 1] rfl (by decide +kernel) (q0 := 0) (ci := 8) rfl rfl rfl hl.1 rfl (Nat.le_of_ble_eq_true rfl) (tb_at tk_X8_readWants 6 rfl) ⟨Nat.zero_le _, Nat.zero_le _⟩) hW hS [0, 1] rfl [z_o, z_text_a] rfl (fun _ => rfl) [some 0, some 1, none, none] (by decide +kernel) (fun u => (w_X8_readWants cI cZ cQ cW z_o z_weight_a z_wants_a z_wantsMany_a z_st_a z_was_a z_images_a z_isKept_a z_told_a z_text_a z_saidWeight_a z_saidNights_a z_saidWants_a z_saidMany_a z_now_a z_gave_a z_at_a z_way_a z_bestWay_a z_made_a z_people z_known z_toldMany z_trace z_texted u.1 u.2.1 u.2.2.1 u.2.2.2.1 u.2.2.2.2 z_items z_saidPeople z_saidLaw z_ringed z_lumps z_text z_saidWants z_saidMany)) (fun _ => rfl) (fun r8 u H locs h hW hS => ?_)
  obtain ⟨z_cursor_8, z_start_8, z_token_8, z_number_8, z_isWrong_8⟩ := u
  dsimp only at h
  have hW : PD (dC, dI) A (w_X8_readWants cI cZ cQ cW z_o z_weight_a z_wants_a z_wantsMany_a z_st_a z_was_a z_images_a z_isKept_a z_told_a z_text_a z_saidWeight_a z_saidNights_a z_saidWants_a z_saidMany_a z_now_a z_gave_a z_at_a z_way_a z_bestWay_a z_made_a z_people z_known z_toldMany z_trace z_texted z_cursor_8 z_start_8 z_token_8 z_number_8 z_isWrong_8 z_items z_saidPeople z_saidLaw z_ringed z_lumps z_text z_saidWants z_saidMany) H := hW
  refine lv_istore_n (pc := 11) (lv' := [(1, .int r8), (0, .ref z_o)]) hx hb (tb_at tk_X8_readWants 7 rfl) rfl hl (by decide) rfl (fun ls hl => ?_)
  refine lv_iconst (pc := 12) (v := 0) hx hb (tb_at tk_X8_readWants 8 rfl) (by decide) ?_
  refine lv_istore_n (pc := 13) (lv' := [(2, .int 0), (1, .int r8), (0, .ref z_o)]) hx hb (tb_at tk_X8_readWants 9 rfl) rfl hl (by decide) rfl (fun ls hl => ?_)
  refine lv_iconst (pc := 14) (v := 0) hx hb (tb_at tk_X8_readWants 10 rfl) (by decide) ?_
  refine lv_istore_n (pc := 15) (lv' := [(3, .int 0), (2, .int 0), (1, .int r8), (0, .ref z_o)]) hx hb (tb_at tk_X8_readWants 11 rfl) rfl hl (by decide) rfl (fun ls hl => ?_)
  have w115 : ∀ (y3_e115 : Int32) (z_cursor_e115 : Int32) (z_start_e115 : Int32) (z_token_e115 : Int32) (z_number_e115 : Int32) (z_isWrong_e115 : Int32) (z_saidWants_e115 : Nat → Int32) (H : Heap) (locs : List Loc) (ls : Array Slot), f_X8_readWants_e115 z_saidMany r8 k y3_e115 z_cursor_e115 z_start_e115 z_token_e115 z_number_e115 z_isWrong_e115 z_saidWants_e115 = some res → PD (dC, dI) A (w_X8_readWants cI cZ cQ cW z_o z_weight_a z_wants_a z_wantsMany_a z_st_a z_was_a z_images_a z_isKept_a z_told_a z_text_a z_saidWeight_a z_saidNights_a z_saidWants_a z_saidMany_a z_now_a z_gave_a z_at_a z_way_a z_bestWay_a z_made_a z_people z_known z_toldMany z_trace z_texted z_cursor_e115 z_start_e115 z_token_e115 z_number_e115 z_isWrong_e115 z_items z_saidPeople z_saidLaw z_ringed z_lumps z_text z_saidWants_e115 z_saidMany) H → va_S A s.heap H locs → lv_has ls 4 [(0, .ref z_o), (1, .int r8), (3, .int y3_e115)] → W p l e rm_X8_readWants s m args below meth c H locs 0 0 Q (F0 m 115 ls []) := by
    intro y3_e115 z_cursor_e115 z_start_e115 z_token_e115 z_number_e115 z_isWrong_e115 z_saidWants_e115 H locs ls h hW hS hl
    unfold f_X8_readWants_e115 at h
    refine lv_aload_n (pc := 115) hx hb (tb_at tk_X8_readWants 65 rfl) rfl (lv_at hl 0 rfl) ?_
    refine k_get (pc := 116) (v := .ref z_saidMany_a) (T := TX8) B inG8 hW 0 rfl rfl 24 (by decide) q_f_X8_47 rfl rfl (tb_at tk_X8_readWants 66 rfl) ?_
    refine lv_iload_n (pc := 119) hx hb (tb_at tk_X8_readWants 67 rfl) rfl (lv_at hl 1 rfl) ?_
    refine lv_iload_n (pc := 120) hx hb (tb_at tk_X8_readWants 68 rfl) rfl (lv_at hl 2 rfl) ?_
    have ii := ivi_in (ck_l h)
    have h := ck_r h
    refine k_iast (pc := 121) B hW hS 3 0 rfl rfl ii (tb_at tk_X8_readWants 69 rfl) (w_X8_readWants cI cZ cQ cW z_o z_weight_a z_wants_a z_wantsMany_a z_st_a z_was_a z_images_a z_isKept_a z_told_a z_text_a z_saidWeight_a z_saidNights_a z_saidWants_a z_saidMany_a z_now_a z_gave_a z_at_a z_way_a z_bestWay_a z_made_a z_people z_known z_toldMany z_trace z_texted z_cursor_e115 z_start_e115 z_token_e115 z_number_e115 z_isWrong_e115 z_items z_saidPeople z_saidLaw z_ringed z_lumps z_text z_saidWants_e115 (upd z_saidMany (r8).toNatClampNeg y3_e115)) rfl (fun H locs hW hS => ?_)
    exact hQ (z_cursor_e115, z_start_e115, z_token_e115, z_number_e115, z_isWrong_e115, z_saidWants_e115, upd z_saidMany (r8).toNatClampNeg y3_e115) _ _ _ 122 h hW hS (tb_at tk_X8_readWants 70 rfl)
  have w16 : ∀ (n : Nat), ∀ (y2_l16 : Int32) (y3_l16 : Int32) (z_cursor_l16 : Int32) (z_start_l16 : Int32) (z_token_l16 : Int32) (z_number_l16 : Int32) (z_isWrong_l16 : Int32) (z_saidWants_l16 : Nat → Int32) (H : Heap) (locs : List Loc) (ls : Array Slot), f_X8_readWants_l16 z_texted z_saidPeople z_text r8 (fun y3_e115 z_cursor_e115 z_start_e115 z_token_e115 z_number_e115 z_isWrong_e115 z_saidWants_e115 => f_X8_readWants_e115 z_saidMany r8 k y3_e115 z_cursor_e115 z_start_e115 z_token_e115 z_number_e115 z_isWrong_e115 z_saidWants_e115) N n y2_l16 y3_l16 z_cursor_l16 z_start_l16 z_token_l16 z_number_l16 z_isWrong_l16 z_saidWants_l16 = some res → PD (dC, dI) A (w_X8_readWants cI cZ cQ cW z_o z_weight_a z_wants_a z_wantsMany_a z_st_a z_was_a z_images_a z_isKept_a z_told_a z_text_a z_saidWeight_a z_saidNights_a z_saidWants_a z_saidMany_a z_now_a z_gave_a z_at_a z_way_a z_bestWay_a z_made_a z_people z_known z_toldMany z_trace z_texted z_cursor_l16 z_start_l16 z_token_l16 z_number_l16 z_isWrong_l16 z_items z_saidPeople z_saidLaw z_ringed z_lumps z_text z_saidWants_l16 z_saidMany) H → va_S A s.heap H locs → lv_has ls 4 [(0, .ref z_o), (1, .int r8), (2, .int y2_l16), (3, .int y3_l16)] → W p l e rm_X8_readWants s m args below meth c H locs 0 0 Q (F0 m 16 ls []) := by
    intro n
    induction n with
    | zero => intro y2_l16 y3_l16 z_cursor_l16 z_start_l16 z_token_l16 z_number_l16 z_isWrong_l16 z_saidWants_l16 H locs ls h; exact no_n h
    | succ n16 ih16 =>
      intro y2_l16 y3_l16 z_cursor_l16 z_start_l16 z_token_l16 z_number_l16 z_isWrong_l16 z_saidWants_l16 H locs ls h hW hS hl
      rw [f_X8_readWants_l16] at h
      refine lv_aload_n (pc := 16) hx hb (tb_at tk_X8_readWants 12 rfl) rfl (lv_at hl 0 rfl) ?_
      refine k_get (pc := 17) (v := .int z_isWrong_l16) (T := TX8) B inG8 hW 0 rfl rfl 18 (by decide) q_f_X8_99 rfl rfl (tb_at tk_X8_readWants 13 rfl) ?_
      refine lv_if_ne (pc := 20) (tgt := 115) hx hb (tb_at tk_X8_readWants 14 rfl) (by decide) (fun cc => ?_) (fun cc => ?_)
      · have h := it_f cc h
        exact w115 y3_l16 z_cursor_l16 z_start_l16 z_token_l16 z_number_l16 z_isWrong_l16 z_saidWants_l16 _ _ _ h hW hS (lv_sub hl [0, 1, 3] rfl)
      · have h := it_t cc h
        refine lv_aload_n (pc := 23) hx hb (tb_at tk_X8_readWants 15 rfl) rfl (lv_at hl 0 rfl) ?_
        refine k_get (pc := 24) (v := .int z_token_l16) (T := TX8) B inG8 hW 0 rfl rfl 16 (by decide) q_f_X8_92 rfl rfl (tb_at tk_X8_readWants 16 rfl) ?_
        refine lv_iconst (pc := 27) (v := 3) hx hb (tb_at tk_X8_readWants 17 rfl) (by decide) ?_
        refine lv_icmp_eq (pc := 28) (tgt := 115) hx hb (tb_at tk_X8_readWants 18 rfl) (by decide) (fun cc => ?_) (fun cc => ?_)
        · have h := it_t cc h
          exact w115 y3_l16 z_cursor_l16 z_start_l16 z_token_l16 z_number_l16 z_isWrong_l16 z_saidWants_l16 _ _ _ h hW hS (lv_sub hl [0, 1, 3] rfl)
        · have h := it_f cc h
          refine lv_aload_n (pc := 31) hx hb (tb_at tk_X8_readWants 19 rfl) rfl (lv_at hl 0 rfl) ?_
          refine lv_iload_n (pc := 32) hx hb (tb_at tk_X8_readWants 20 rfl) rfl (lv_at hl 3 rfl) ?_
          refine lv_iconst (pc := 33) (v := 4) hx hb (tb_at tk_X8_readWants 21 rfl) (by decide) ?_
          have w72 : ∀ (s1_j72 : Int32) (H : Heap) (locs : List Loc) (ls : Array Slot), f_X8_readWants_j72 z_texted z_text r8 y2_l16 y3_l16 z_cursor_l16 z_start_l16 z_token_l16 z_number_l16 z_saidWants_l16 (f_X8_readWants_l16 z_texted z_saidPeople z_text r8 (fun y3_e115 z_cursor_e115 z_start_e115 z_token_e115 z_number_e115 z_isWrong_e115 z_saidWants_e115 => f_X8_readWants_e115 z_saidMany r8 k y3_e115 z_cursor_e115 z_start_e115 z_token_e115 z_number_e115 z_isWrong_e115 z_saidWants_e115) N n16) N s1_j72 = some res → PD (dC, dI) A (w_X8_readWants cI cZ cQ cW z_o z_weight_a z_wants_a z_wantsMany_a z_st_a z_was_a z_images_a z_isKept_a z_told_a z_text_a z_saidWeight_a z_saidNights_a z_saidWants_a z_saidMany_a z_now_a z_gave_a z_at_a z_way_a z_bestWay_a z_made_a z_people z_known z_toldMany z_trace z_texted z_cursor_l16 z_start_l16 z_token_l16 z_number_l16 z_isWrong_l16 z_items z_saidPeople z_saidLaw z_ringed z_lumps z_text z_saidWants_l16 z_saidMany) H → va_S A s.heap H locs → lv_has ls 4 [(0, .ref z_o), (1, .int r8), (2, .int y2_l16), (3, .int y3_l16)] → W p l e rm_X8_readWants s m args below meth c H locs 0 0 Q (F0 m 72 ls [.int s1_j72, .ref z_o]) := by
            intro s1_j72 H locs ls h hW hS hl
            unfold f_X8_readWants_j72 at h
            have zz := ck_l h
            have h := ck_r h
            refine k_put (pc := 72) (T := TX8) B inG8 tyX8 tyX8_ok nmX8 hW hS 0 rfl rfl 18 (by decide) q_f_X8_99 rfl rfl (isZ_n zz) (isZ_f zz) (Nat.le_of_ble_eq_true rfl) (tb_at tk_X8_readWants 40 rfl) (w_X8_readWants cI cZ cQ cW z_o z_weight_a z_wants_a z_wantsMany_a z_st_a z_was_a z_images_a z_isKept_a z_told_a z_text_a z_saidWeight_a z_saidNights_a z_saidWants_a z_saidMany_a z_now_a z_gave_a z_at_a z_way_a z_bestWay_a z_made_a z_people z_known z_toldMany z_trace z_texted z_cursor_l16 z_start_l16 z_token_l16 z_number_l16 s1_j72 z_items z_saidPeople z_saidLaw z_ringed z_lumps z_text z_saidWants_l16 z_saidMany) rfl (fun H locs hW hS => ?_)
            refine lv_aload_n (pc := 75) hx hb (tb_at tk_X8_readWants 41 rfl) rfl (lv_at hl 0 rfl) ?_
            refine k_get (pc := 76) (v := .int s1_j72) (T := TX8) B inG8 hW 0 rfl rfl 18 (by decide) q_f_X8_99 rfl rfl (tb_at tk_X8_readWants 42 rfl) ?_
            refine lv_if_ne (pc := 79) (tgt := 16) hx hb (tb_at tk_X8_readWants 43 rfl) (by decide) (fun cc => ?_) (fun cc => ?_)
            · have h := it_f cc h
              exact ih16 y2_l16 y3_l16 z_cursor_l16 z_start_l16 z_token_l16 z_number_l16 s1_j72 z_saidWants_l16 _ _ _ h hW hS (lv_sub hl [0, 1, 2, 3] rfl)
            · have h := it_t cc h
              refine lv_aload_n (pc := 82) hx hb (tb_at tk_X8_readWants 44 rfl) rfl (lv_at hl 0 rfl) ?_
              refine k_get (pc := 83) (v := .ref z_saidWants_a) (T := TX8) B inG8 hW 0 rfl rfl 23 (by decide) q_f_X8_44 rfl rfl (tb_at tk_X8_readWants 45 rfl) ?_
              refine lv_iconst (pc := 86) (v := 4) hx hb (tb_at tk_X8_readWants 46 rfl) (by decide) ?_
              refine lv_iload_n (pc := 87) hx hb (tb_at tk_X8_readWants 47 rfl) rfl (lv_at hl 1 rfl) ?_
              refine lv_imul (pc := 88) hx hb (tb_at tk_X8_readWants 48 rfl) ?_
              refine lv_iload_n (pc := 89) hx hb (tb_at tk_X8_readWants 49 rfl) rfl (lv_at hl 3 rfl) ?_
              refine lv_iadd (pc := 90) hx hb (tb_at tk_X8_readWants 50 rfl) ?_
              refine lv_aload_n (pc := 91) hx hb (tb_at tk_X8_readWants 51 rfl) rfl (lv_at hl 0 rfl) ?_
              refine k_get (pc := 92) (v := .int z_number_l16) (T := TX8) B inG8 hW 0 rfl rfl 17 (by decide) q_f_X8_89 rfl rfl (tb_at tk_X8_readWants 52 rfl) ?_
              have ii := ivi_in (ck_l h)
              have h := ck_r h
              refine k_iast (pc := 95) B hW hS 2 0 rfl rfl ii (tb_at tk_X8_readWants 53 rfl) (w_X8_readWants cI cZ cQ cW z_o z_weight_a z_wants_a z_wantsMany_a z_st_a z_was_a z_images_a z_isKept_a z_told_a z_text_a z_saidWeight_a z_saidNights_a z_saidWants_a z_saidMany_a z_now_a z_gave_a z_at_a z_way_a z_bestWay_a z_made_a z_people z_known z_toldMany z_trace z_texted z_cursor_l16 z_start_l16 z_token_l16 z_number_l16 s1_j72 z_items z_saidPeople z_saidLaw z_ringed z_lumps z_text (upd z_saidWants_l16 (((4 : Int32) * r8) + y3_l16).toNatClampNeg z_number_l16) z_saidMany) rfl (fun H locs hW hS => ?_)
              refine lv_iload_n (pc := 96) hx hb (tb_at tk_X8_readWants 54 rfl) rfl (lv_at hl 2 rfl) ?_
              refine lv_iconst (pc := 97) (v := 1) hx hb (tb_at tk_X8_readWants 55 rfl) (by decide) ?_
              refine lv_aload_n (pc := 98) hx hb (tb_at tk_X8_readWants 56 rfl) rfl (lv_at hl 0 rfl) ?_
              refine k_get (pc := 99) (v := .int z_number_l16) (T := TX8) B inG8 hW 0 rfl rfl 17 (by decide) q_f_X8_89 rfl rfl (tb_at tk_X8_readWants 57 rfl) ?_
              refine lv_ishl (pc := 102) hx hb (tb_at tk_X8_readWants 58 rfl) ?_
              refine lv_ior (pc := 103) hx hb (tb_at tk_X8_readWants 59 rfl) ?_
              refine lv_istore_n (pc := 104) (lv' := [(2, .int (y2_l16 ||| ((1 : Int32) <<< (z_number_l16 &&& 31)))), (0, .ref z_o), (1, .int r8), (3, .int y3_l16)]) hx hb (tb_at tk_X8_readWants 60 rfl) rfl hl (by decide) rfl (fun ls hl => ?_)
              refine lv_iinc (pc := 105) (v := y3_l16 + 1) (lv' := [(3, .int (y3_l16 + 1)), (2, .int (y2_l16 ||| ((1 : Int32) <<< (z_number_l16 &&& 31)))), (0, .ref z_o), (1, .int r8)]) hx hb (tb_at tk_X8_readWants 61 rfl) hl (k := 3) rfl rfl (by decide) rfl (fun ls hl => ?_)
              refine lv_aload_n (pc := 108) hx hb (tb_at tk_X8_readWants 62 rfl) rfl (lv_at hl 2 rfl) ?_
              refine k_callv (pc := 109) B (k_runVv (rest := []) (C := RX8) B (c_X8_next l dC dI cI cZ cQ cW z_o z_weight_a z_wants_a z_wantsMany_a z_st_a z_was_a z_images_a z_isKept_a z_told_a z_text_a z_saidWeight_a z_saidNights_a z_saidWants_a z_saidMany_a z_now_a z_gave_a z_at_a z_way_a z_bestWay_a z_made_a z_people z_known z_toldMany z_trace z_texted z_cursor_l16 z_start_l16 z_token_l16 z_number_l16 s1_j72 z_items z_saidPeople z_saidLaw z_ringed z_lumps z_text  N _ res h) E0_st (fun _ _ _ => trivial) q_c_X8_next q_m_X8_103 q_i_X8_next q_s_X8_next q_n_X8 hd_X8_next ⟨rfl, rfl⟩ ⟨Nat.le_of_ble_eq_true rfl, Nat.le_of_ble_eq_true rfl⟩ hW [0, 1] rfl (by decide +kernel) (q0 := 0) (ci := 8) rfl rfl rfl hl.1 rfl (Nat.le_of_ble_eq_true rfl) (tb_at tk_X8_readWants 63 rfl) ⟨Nat.zero_le _, Nat.zero_le _⟩) hW hS [0, 1] rfl [z_o, z_text_a] rfl (fun _ => rfl) [some 0, some 1, none, none] (by decide +kernel) (fun u => (w_X8_readWants cI cZ cQ cW z_o z_weight_a z_wants_a z_wantsMany_a z_st_a z_was_a z_images_a z_isKept_a z_told_a z_text_a z_saidWeight_a z_saidNights_a z_saidWants_a z_saidMany_a z_now_a z_gave_a z_at_a z_way_a z_bestWay_a z_made_a z_people z_known z_toldMany z_trace z_texted u.1 u.2.1 u.2.2.1 u.2.2.2 s1_j72 z_items z_saidPeople z_saidLaw z_ringed z_lumps z_text (upd z_saidWants_l16 (((4 : Int32) * r8) + y3_l16).toNatClampNeg z_number_l16) z_saidMany)) (fun _ => rfl) (fun u H locs h hW hS => ?_)
              obtain ⟨z_cursor_109, z_start_109, z_token_109, z_number_109⟩ := u
              dsimp only at h
              have hW : PD (dC, dI) A (w_X8_readWants cI cZ cQ cW z_o z_weight_a z_wants_a z_wantsMany_a z_st_a z_was_a z_images_a z_isKept_a z_told_a z_text_a z_saidWeight_a z_saidNights_a z_saidWants_a z_saidMany_a z_now_a z_gave_a z_at_a z_way_a z_bestWay_a z_made_a z_people z_known z_toldMany z_trace z_texted z_cursor_109 z_start_109 z_token_109 z_number_109 s1_j72 z_items z_saidPeople z_saidLaw z_ringed z_lumps z_text (upd z_saidWants_l16 (((4 : Int32) * r8) + y3_l16).toNatClampNeg z_number_l16) z_saidMany) H := hW
              refine lv_goto (pc := 112) (tgt := 16) hx hb (tb_at tk_X8_readWants 64 rfl) (by decide) ?_
              exact ih16 (y2_l16 ||| ((1 : Int32) <<< (z_number_l16 &&& 31))) (y3_l16 + 1) z_cursor_109 z_start_109 z_token_109 z_number_109 s1_j72 (upd z_saidWants_l16 (((4 : Int32) * r8) + y3_l16).toNatClampNeg z_number_l16) _ _ _ h hW hS (lv_sub hl [2, 3, 1, 0] rfl)
          have w67 : ∀ (H : Heap) (locs : List Loc) (ls : Array Slot), f_X8_readWants_j67 z_texted z_text r8 y2_l16 y3_l16 z_cursor_l16 z_start_l16 z_token_l16 z_number_l16 z_saidWants_l16 (f_X8_readWants_l16 z_texted z_saidPeople z_text r8 (fun y3_e115 z_cursor_e115 z_start_e115 z_token_e115 z_number_e115 z_isWrong_e115 z_saidWants_e115 => f_X8_readWants_e115 z_saidMany r8 k y3_e115 z_cursor_e115 z_start_e115 z_token_e115 z_number_e115 z_isWrong_e115 z_saidWants_e115) N n16) N = some res → PD (dC, dI) A (w_X8_readWants cI cZ cQ cW z_o z_weight_a z_wants_a z_wantsMany_a z_st_a z_was_a z_images_a z_isKept_a z_told_a z_text_a z_saidWeight_a z_saidNights_a z_saidWants_a z_saidMany_a z_now_a z_gave_a z_at_a z_way_a z_bestWay_a z_made_a z_people z_known z_toldMany z_trace z_texted z_cursor_l16 z_start_l16 z_token_l16 z_number_l16 z_isWrong_l16 z_items z_saidPeople z_saidLaw z_ringed z_lumps z_text z_saidWants_l16 z_saidMany) H → va_S A s.heap H locs → lv_has ls 4 [(0, .ref z_o), (1, .int r8), (2, .int y2_l16), (3, .int y3_l16)] → W p l e rm_X8_readWants s m args below meth c H locs 0 0 Q (F0 m 67 ls [.ref z_o]) := by
            intro H locs ls h hW hS hl
            unfold f_X8_readWants_j67 at h
            refine lv_iconst (pc := 67) (v := 1) hx hb (tb_at tk_X8_readWants 37 rfl) (by decide) ?_
            refine lv_goto (pc := 68) (tgt := 72) hx hb (tb_at tk_X8_readWants 38 rfl) (by decide) ?_
            exact w72 1 _ _ _ h hW hS (lv_sub hl [0, 1, 2, 3] rfl)
          refine lv_icmp_eq (pc := 34) (tgt := 67) hx hb (tb_at tk_X8_readWants 22 rfl) (by decide) (fun cc => ?_) (fun cc => ?_)
          · have h := it_t cc h
            exact w67  _ _ _ h hW hS (lv_sub hl [0, 1, 2, 3] rfl)
          · have h := it_f cc h
            refine lv_aload_n (pc := 37) hx hb (tb_at tk_X8_readWants 23 rfl) rfl (lv_at hl 0 rfl) ?_
            refine k_get (pc := 38) (v := .int z_token_l16) (T := TX8) B inG8 hW 0 rfl rfl 16 (by decide) q_f_X8_92 rfl rfl (tb_at tk_X8_readWants 24 rfl) ?_
            refine lv_iconst (pc := 41) (v := 2) hx hb (tb_at tk_X8_readWants 25 rfl) (by decide) ?_
            refine lv_icmp_ne (pc := 42) (tgt := 67) hx hb (tb_at tk_X8_readWants 26 rfl) (by decide) (fun cc => ?_) (fun cc => ?_)
            · have h := it_f cc h
              exact w67  _ _ _ h hW hS (lv_sub hl [0, 1, 2, 3] rfl)
            · have h := it_t cc h
              refine lv_aload_n (pc := 45) hx hb (tb_at tk_X8_readWants 27 rfl) rfl (lv_at hl 0 rfl) ?_
              refine k_get (pc := 46) (v := .int z_number_l16) (T := TX8) B inG8 hW 0 rfl rfl 17 (by decide) q_f_X8_89 rfl rfl (tb_at tk_X8_readWants 28 rfl) ?_
              refine lv_aload_n (pc := 49) hx hb (tb_at tk_X8_readWants 29 rfl) rfl (lv_at hl 0 rfl) ?_
              refine k_get (pc := 50) (v := .int z_saidPeople) (T := TX8) B inG8 hW 0 rfl rfl 20 (by decide) q_f_X8_106 rfl rfl (tb_at tk_X8_readWants 30 rfl) ?_
              refine lv_icmp_ge (pc := 53) (tgt := 67) hx hb (tb_at tk_X8_readWants 31 rfl) (by decide) (fun cc => ?_) (fun cc => ?_)
              · have h := it_t cc h
                exact w67  _ _ _ h hW hS (lv_sub hl [0, 1, 2, 3] rfl)
              · have h := it_f cc h
                refine lv_iload_n (pc := 56) hx hb (tb_at tk_X8_readWants 32 rfl) rfl (lv_at hl 2 rfl) ?_
                refine lv_aload_n (pc := 57) hx hb (tb_at tk_X8_readWants 33 rfl) rfl (lv_at hl 0 rfl) ?_
                refine k_get (pc := 58) (v := .int z_number_l16) (T := TX8) B inG8 hW 0 rfl rfl 17 (by decide) q_f_X8_89 rfl rfl (tb_at tk_X8_readWants 34 rfl) ?_
                refine k_call0 (pc := 61) B (k_runSi (rest := [.ref z_o]) (host := "") B (c_X8_has l dC dI cI cZ cQ cW   y2_l16 z_number_l16 N _ res h) E0_st (fun _ _ _ => trivial) q_c_X8_has q_m_X8_113 q_t_X8_has q_n_X8 hd_X8_has ⟨rfl, rfl⟩ ⟨Nat.le_of_ble_eq_true rfl, Nat.le_of_ble_eq_true rfl⟩ hW [] rfl (by decide +kernel) rfl hl.1 rfl (Nat.le_of_ble_eq_true rfl) (tb_at tk_X8_readWants 35 rfl) ⟨Nat.zero_le _, Nat.zero_le _⟩) hW hS (fun r61 u H locs h hW hS => ?_)
                refine lv_if_eq (pc := 64) (tgt := 71) hx hb (tb_at tk_X8_readWants 36 rfl) (by decide) (fun cc => ?_) (fun cc => ?_)
                · have h := it_t cc h
                  refine lv_iconst (pc := 71) (v := 0) hx hb (tb_at tk_X8_readWants 39 rfl) (by decide) ?_
                  exact w72 0 _ _ _ h hW hS (lv_sub hl [0, 1, 2, 3] rfl)
                · have h := it_f cc h
                  exact w67  _ _ _ h hW hS (lv_sub hl [0, 1, 2, 3] rfl)
  exact w16 N 0 0 z_cursor_8 z_start_8 z_token_8 z_number_8 z_isWrong_8 z_saidWants _ _ _ h hW hS (lv_sub hl [3, 2, 1, 0] rfl)
def f_X8_readItem_j140 {ρ : Type} (z_texted : Int32) (z_text : Nat → Int32) (z_cursor_j119 : Int32) (z_start_j119 : Int32) (z_token_j119 : Int32) (z_number_j119 : Int32) (z_saidPeople_j119 : Int32) (z_saidLaw_j119 : Int32) (z_saidWeight_j119 : Nat → Int32) (z_saidNights_j119 : Nat → Int32) (z_saidMany_j119 : Nat → Int32) (z_saidWants_j119 : Nat → Int32) (k : Int32 → Int32 → Int32 → Int32 → Int32 → Int32 → Int32 → (Nat → Int32) → (Nat → Int32) → (Nat → Int32) → (Nat → Int32) → Option ρ) (N : Nat) (s1_j140 : Int32) : Option ρ := ck (isZ s1_j140) (if s1_j140 = 0 then (f_X8_next N z_texted z_cursor_j119 z_text (fun z_cursor_151 z_start_151 z_token_151 z_number_151 => k z_cursor_151 z_start_151 z_token_151 z_number_151 s1_j140 z_saidPeople_j119 z_saidLaw_j119 z_saidWeight_j119 z_saidNights_j119 z_saidMany_j119 z_saidWants_j119)) else (k z_cursor_j119 z_start_j119 z_token_j119 z_number_j119 s1_j140 z_saidPeople_j119 z_saidLaw_j119 z_saidWeight_j119 z_saidNights_j119 z_saidMany_j119 z_saidWants_j119))
def f_X8_readItem_j135 {ρ : Type} (z_texted : Int32) (z_text : Nat → Int32) (z_cursor_j119 : Int32) (z_start_j119 : Int32) (z_token_j119 : Int32) (z_number_j119 : Int32) (z_saidPeople_j119 : Int32) (z_saidLaw_j119 : Int32) (z_saidWeight_j119 : Nat → Int32) (z_saidNights_j119 : Nat → Int32) (z_saidMany_j119 : Nat → Int32) (z_saidWants_j119 : Nat → Int32) (k : Int32 → Int32 → Int32 → Int32 → Int32 → Int32 → Int32 → (Nat → Int32) → (Nat → Int32) → (Nat → Int32) → (Nat → Int32) → Option ρ) (N : Nat) : Option ρ := f_X8_readItem_j140 z_texted z_text z_cursor_j119 z_start_j119 z_token_j119 z_number_j119 z_saidPeople_j119 z_saidLaw_j119 z_saidWeight_j119 z_saidNights_j119 z_saidMany_j119 z_saidWants_j119 k N 1
def f_X8_readItem_j119 {ρ : Type} (z_texted : Int32) (z_text : Nat → Int32) (k : Int32 → Int32 → Int32 → Int32 → Int32 → Int32 → Int32 → (Nat → Int32) → (Nat → Int32) → (Nat → Int32) → (Nat → Int32) → Option ρ) (N : Nat) (z_cursor_j119 : Int32) (z_start_j119 : Int32) (z_token_j119 : Int32) (z_number_j119 : Int32) (z_isWrong_j119 : Int32) (z_saidPeople_j119 : Int32) (z_saidLaw_j119 : Int32) (z_saidWeight_j119 : Nat → Int32) (z_saidNights_j119 : Nat → Int32) (z_saidMany_j119 : Nat → Int32) (z_saidWants_j119 : Nat → Int32) : Option ρ := if z_isWrong_j119 = 0 then (if z_token_j119 = 3 then (f_X8_readItem_j140 z_texted z_text z_cursor_j119 z_start_j119 z_token_j119 z_number_j119 z_saidPeople_j119 z_saidLaw_j119 z_saidWeight_j119 z_saidNights_j119 z_saidMany_j119 z_saidWants_j119 k N 0) else (f_X8_readItem_j135 z_texted z_text z_cursor_j119 z_start_j119 z_token_j119 z_number_j119 z_saidPeople_j119 z_saidLaw_j119 z_saidWeight_j119 z_saidNights_j119 z_saidMany_j119 z_saidWants_j119 k N )) else (f_X8_readItem_j135 z_texted z_text z_cursor_j119 z_start_j119 z_token_j119 z_number_j119 z_saidPeople_j119 z_saidLaw_j119 z_saidWeight_j119 z_saidNights_j119 z_saidMany_j119 z_saidWants_j119 k N )
def f_X8_readItem_j60 {ρ : Type} (z_isWrong : Int32) (z_cursor : Int32) (z_start : Int32) (z_token : Int32) (z_number : Int32) (z_saidPeople : Int32) (z_saidWeight : Nat → Int32) (z_saidNights : Nat → Int32) (z_saidMany : Nat → Int32) (z_saidWants : Nat → Int32) (z_saidLaw : Int32) (z_texted : Int32) (z_text : Nat → Int32) (k : Int32 → Int32 → Int32 → Int32 → Int32 → Int32 → Int32 → (Nat → Int32) → (Nat → Int32) → (Nat → Int32) → (Nat → Int32) → Option ρ) (N : Nat) (s0_j60 : Int32) : Option ρ := if z_token = 1 then (if s0_j60 = 0 then (k z_cursor z_start z_token z_number 1 z_saidPeople z_saidLaw z_saidWeight z_saidNights z_saidMany z_saidWants) else (f_X8_next N z_texted z_cursor z_text (fun z_cursor_80 z_start_80 z_token_80 z_number_80 => if z_number = 112 then (f_X8_readPerson N z_texted z_cursor_80 z_start_80 z_token_80 z_number_80 z_isWrong z_saidPeople z_text z_saidWeight z_saidNights z_saidMany (fun z_cursor_90 z_start_90 z_token_90 z_number_90 z_isWrong_90 z_saidPeople_90 z_saidWeight_90 z_saidNights_90 z_saidMany_90 => f_X8_readItem_j119 z_texted z_text k N z_cursor_90 z_start_90 z_token_90 z_number_90 z_isWrong_90 z_saidPeople_90 z_saidLaw z_saidWeight_90 z_saidNights_90 z_saidMany_90 z_saidWants)) else (if z_number = 119 then (f_X8_readWants N z_texted z_cursor_80 z_start_80 z_token_80 z_number_80 z_isWrong z_saidPeople z_text z_saidWants z_saidMany (fun z_cursor_103 z_start_103 z_token_103 z_number_103 z_isWrong_103 z_saidWants_103 z_saidMany_103 => f_X8_readItem_j119 z_texted z_text k N z_cursor_103 z_start_103 z_token_103 z_number_103 z_isWrong_103 z_saidPeople z_saidLaw z_saidWeight z_saidNights z_saidMany_103 z_saidWants_103)) else (f_X8_takesNumber N z_texted z_cursor_80 z_start_80 z_token_80 z_number_80 z_isWrong z_text 0 2 (fun r113 z_cursor_113 z_start_113 z_token_113 z_number_113 z_isWrong_113 => f_X8_readItem_j119 z_texted z_text k N z_cursor_113 z_start_113 z_token_113 z_number_113 z_isWrong_113 z_saidPeople r113 z_saidWeight z_saidNights z_saidMany z_saidWants)))))) else (k z_cursor z_start z_token z_number 1 z_saidPeople z_saidLaw z_saidWeight z_saidNights z_saidMany z_saidWants)
def f_X8_readItem {ρ : Type} (N : Nat) (z_texted : Int32) (z_cursor : Int32) (z_start : Int32) (z_token : Int32) (z_number : Int32) (z_isWrong : Int32) (z_saidPeople : Int32) (z_saidLaw : Int32) (z_text : Nat → Int32) (z_saidWeight : Nat → Int32) (z_saidNights : Nat → Int32) (z_saidMany : Nat → Int32) (z_saidWants : Nat → Int32) (k : Int32 → Int32 → Int32 → Int32 → Int32 → Int32 → Int32 → (Nat → Int32) → (Nat → Int32) → (Nat → Int32) → (Nat → Int32) → Option ρ) : Option ρ := if z_number = 112 then (if 6 ≤ z_saidPeople then (f_X8_readItem_j60 z_isWrong z_cursor z_start z_token z_number z_saidPeople z_saidWeight z_saidNights z_saidMany z_saidWants z_saidLaw z_texted z_text k N 0) else (f_X8_readItem_j60 z_isWrong z_cursor z_start z_token z_number z_saidPeople z_saidWeight z_saidNights z_saidMany z_saidWants z_saidLaw z_texted z_text k N 1)) else (if z_number = 108 then (if 0 ≤ z_saidLaw then (f_X8_readItem_j60 z_isWrong z_cursor z_start z_token z_number z_saidPeople z_saidWeight z_saidNights z_saidMany z_saidWants z_saidLaw z_texted z_text k N 0) else (f_X8_readItem_j60 z_isWrong z_cursor z_start z_token z_number z_saidPeople z_saidWeight z_saidNights z_saidMany z_saidWants z_saidLaw z_texted z_text k N 1)) else (if z_number = 119 then (f_X8_readItem_j60 z_isWrong z_cursor z_start z_token z_number z_saidPeople z_saidWeight z_saidNights z_saidMany z_saidWants z_saidLaw z_texted z_text k N 1) else (f_X8_readItem_j60 z_isWrong z_cursor z_start z_token z_number z_saidPeople z_saidWeight z_saidNights z_saidMany z_saidWants z_saidLaw z_texted z_text k N 0)))
abbrev w_X8_readItem (cI cZ cQ cW : ClassId) (z_o : Nat) (z_weight_a : Nat) (z_wants_a : Nat) (z_wantsMany_a : Nat) (z_st_a : Nat) (z_was_a : Nat) (z_images_a : Nat) (z_isKept_a : Nat) (z_told_a : Nat) (z_text_a : Nat) (z_saidWeight_a : Nat) (z_saidNights_a : Nat) (z_saidWants_a : Nat) (z_saidMany_a : Nat) (z_now_a : Nat) (z_gave_a : Nat) (z_at_a : Nat) (z_way_a : Nat) (z_bestWay_a : Nat) (z_made_a : Nat) (z_people : Int32) (z_known : Int32) (z_toldMany : Int32) (z_trace : Int64) (z_texted : Int32) (z_cursor : Int32) (z_start : Int32) (z_token : Int32) (z_number : Int32) (z_isWrong : Int32) (z_items : Int32) (z_saidPeople : Int32) (z_saidLaw : Int32) (z_ringed : Int32) (z_lumps : Int32) (z_text : Nat → Int32) (z_saidWeight : Nat → Int32) (z_saidNights : Nat → Int32) (z_saidMany : Nat → Int32) (z_saidWants : Nat → Int32) : va_W := [(z_o, .inr (8, [.int z_people, .ref z_weight_a, .ref z_wants_a, .ref z_wantsMany_a, .ref z_st_a, .ref z_was_a, .int z_known, .ref z_images_a, .ref z_isKept_a, .int z_toldMany, .ref z_told_a, .long z_trace, .ref z_text_a, .int z_texted, .int z_cursor, .int z_start, .int z_token, .int z_number, .int z_isWrong, .int z_items, .int z_saidPeople, .ref z_saidWeight_a, .ref z_saidNights_a, .ref z_saidWants_a, .ref z_saidMany_a, .int z_saidLaw, .ref z_now_a, .ref z_gave_a, .ref z_at_a, .int z_ringed, .int z_lumps, .ref z_way_a, .ref z_bestWay_a, .ref z_made_a])), (z_text_a, .inl (cI, 150, .inl z_text)), (z_saidWeight_a, .inl (cI, 6, .inl z_saidWeight)), (z_saidNights_a, .inl (cI, 6, .inl z_saidNights)), (z_saidMany_a, .inl (cI, 6, .inl z_saidMany)), (z_saidWants_a, .inl (cI, 24, .inl z_saidWants))]
abbrev rm_X8_readItem : Room := { frames := 5, cells := 0, slots := 0, locals := 110 }
set_option maxHeartbeats 4000000 in
set_option maxRecDepth 100000 in
theorem c_X8_readItem (l : Launch) (dC : Nat → ClassId) (dI : Nat → Nat → Nat) (cI cZ cQ cW : ClassId) (z_o : Nat) (z_weight_a : Nat) (z_wants_a : Nat) (z_wantsMany_a : Nat) (z_st_a : Nat) (z_was_a : Nat) (z_images_a : Nat) (z_isKept_a : Nat) (z_told_a : Nat) (z_text_a : Nat) (z_saidWeight_a : Nat) (z_saidNights_a : Nat) (z_saidWants_a : Nat) (z_saidMany_a : Nat) (z_now_a : Nat) (z_gave_a : Nat) (z_at_a : Nat) (z_way_a : Nat) (z_bestWay_a : Nat) (z_made_a : Nat) (z_people : Int32) (z_known : Int32) (z_toldMany : Int32) (z_trace : Int64) (z_texted : Int32) (z_cursor : Int32) (z_start : Int32) (z_token : Int32) (z_number : Int32) (z_isWrong : Int32) (z_items : Int32) (z_saidPeople : Int32) (z_saidLaw : Int32) (z_ringed : Int32) (z_lumps : Int32) (z_text : Nat → Int32) (z_saidWeight : Nat → Int32) (z_saidNights : Nat → Int32) (z_saidMany : Nat → Int32) (z_saidWants : Nat → Int32) {ρ : Type} (N : Nat) (k : Int32 → Int32 → Int32 → Int32 → Int32 → Int32 → Int32 → (Nat → Int32) → (Nat → Int32) → (Nat → Int32) → (Nat → Int32) → Option ρ) (res : ρ) (h : f_X8_readItem N z_texted z_cursor z_start z_token z_number z_isWrong z_saidPeople z_saidLaw z_text z_saidWeight z_saidNights z_saidMany z_saidWants k = some res) : Cv l yX8_readItem (WS yX8_readItem cX8_readItem 3 none) rm_X8_readItem (dC, dI) (tysG cI cZ cQ cW) E0 [.ref z_o] (w_X8_readItem cI cZ cQ cW z_o z_weight_a z_wants_a z_wantsMany_a z_st_a z_was_a z_images_a z_isKept_a z_told_a z_text_a z_saidWeight_a z_saidNights_a z_saidWants_a z_saidMany_a z_now_a z_gave_a z_at_a z_way_a z_bestWay_a z_made_a z_people z_known z_toldMany z_trace z_texted z_cursor z_start z_token z_number z_isWrong z_items z_saidPeople z_saidLaw z_ringed z_lumps z_text z_saidWeight z_saidNights z_saidMany z_saidWants) (fun (u : Int32 × Int32 × Int32 × Int32 × Int32 × Int32 × Int32 × (Nat → Int32) × (Nat → Int32) × (Nat → Int32) × (Nat → Int32)) => (w_X8_readItem cI cZ cQ cW z_o z_weight_a z_wants_a z_wantsMany_a z_st_a z_was_a z_images_a z_isKept_a z_told_a z_text_a z_saidWeight_a z_saidNights_a z_saidWants_a z_saidMany_a z_now_a z_gave_a z_at_a z_way_a z_bestWay_a z_made_a z_people z_known z_toldMany z_trace z_texted u.1 u.2.1 u.2.2.1 u.2.2.2.1 u.2.2.2.2.1 z_items u.2.2.2.2.2.1 u.2.2.2.2.2.2.1 z_ringed z_lumps z_text u.2.2.2.2.2.2.2.1 u.2.2.2.2.2.2.2.2.1 u.2.2.2.2.2.2.2.2.2.1 u.2.2.2.2.2.2.2.2.2.2)) (fun u => k u.1 u.2.1 u.2.2.1 u.2.2.2.1 u.2.2.2.2.1 u.2.2.2.2.2.1 u.2.2.2.2.2.2.1 u.2.2.2.2.2.2.2.1 u.2.2.2.2.2.2.2.2.1 u.2.2.2.2.2.2.2.2.2.1 u.2.2.2.2.2.2.2.2.2.2 = some res) := by
  refine Cv.of (cc := cX8_readItem) (n := 3) (by decide +kernel) (Nat.le_of_ble_eq_true rfl) ?_
  intro p e s m args below meth c A ls Q B hW hE hS hl hQ
  have hx := B.1
  have hb := B.2.1
  have hl : lv_has ls 3 [(0, .ref z_o)] := hl
  unfold f_X8_readItem at h
  refine lv_aload_n (pc := 0) hx hb (tb_at tk_X8_readItem 0 rfl) rfl (lv_at hl 0 rfl) ?_
  refine k_get (pc := 1) (v := .int z_number) (T := TX8) B inG8 hW 0 rfl rfl 17 (by decide) q_f_X8_89 rfl rfl (tb_at tk_X8_readItem 1 rfl) ?_
  refine lv_istore_n (pc := 4) (lv' := [(1, .int z_number), (0, .ref z_o)]) hx hb (tb_at tk_X8_readItem 2 rfl) rfl hl (by decide) rfl (fun ls hl => ?_)
  refine lv_iload_n (pc := 5) hx hb (tb_at tk_X8_readItem 3 rfl) rfl (lv_at hl 0 rfl) ?_
  refine lv_bipush (pc := 6) (v := 112) hx hb (tb_at tk_X8_readItem 4 rfl) (by decide) ?_
  have w60 : ∀ (s0_j60 : Int32) (H : Heap) (locs : List Loc) (ls : Array Slot), f_X8_readItem_j60 z_isWrong z_cursor z_start z_token z_number z_saidPeople z_saidWeight z_saidNights z_saidMany z_saidWants z_saidLaw z_texted z_text k N s0_j60 = some res → PD (dC, dI) A (w_X8_readItem cI cZ cQ cW z_o z_weight_a z_wants_a z_wantsMany_a z_st_a z_was_a z_images_a z_isKept_a z_told_a z_text_a z_saidWeight_a z_saidNights_a z_saidWants_a z_saidMany_a z_now_a z_gave_a z_at_a z_way_a z_bestWay_a z_made_a z_people z_known z_toldMany z_trace z_texted z_cursor z_start z_token z_number z_isWrong z_items z_saidPeople z_saidLaw z_ringed z_lumps z_text z_saidWeight z_saidNights z_saidMany z_saidWants) H → va_S A s.heap H locs → lv_has ls 3 [(0, .ref z_o), (1, .int z_number)] → W p l e rm_X8_readItem s m args below meth c H locs 0 0 Q (F0 m 60 ls [.int s0_j60]) := by
    intro s0_j60 H locs ls h hW hS hl
    unfold f_X8_readItem_j60 at h
    refine lv_istore_n (pc := 60) (lv' := [(2, .int s0_j60), (0, .ref z_o), (1, .int z_number)]) hx hb (tb_at tk_X8_readItem 30 rfl) rfl hl (by decide) rfl (fun ls hl => ?_)
    refine lv_aload_n (pc := 61) hx hb (tb_at tk_X8_readItem 31 rfl) rfl (lv_at hl 1 rfl) ?_
    refine k_get (pc := 62) (v := .int z_token) (T := TX8) B inG8 hW 0 rfl rfl 16 (by decide) q_f_X8_92 rfl rfl (tb_at tk_X8_readItem 32 rfl) ?_
    refine lv_iconst (pc := 65) (v := 1) hx hb (tb_at tk_X8_readItem 33 rfl) (by decide) ?_
    refine lv_icmp_ne (pc := 66) (tgt := 73) hx hb (tb_at tk_X8_readItem 34 rfl) (by decide) (fun cc => ?_) (fun cc => ?_)
    · have h := it_f cc h
      refine lv_aload_n (pc := 73) hx hb (tb_at tk_X8_readItem 37 rfl) rfl (lv_at hl 1 rfl) ?_
      refine lv_iconst (pc := 74) (v := 1) hx hb (tb_at tk_X8_readItem 38 rfl) (by decide) ?_
      refine k_put (pc := 75) (T := TX8) B inG8 tyX8 tyX8_ok nmX8 hW hS 0 rfl rfl 18 (by decide) q_f_X8_99 rfl rfl nz1 fz1 (Nat.le_of_ble_eq_true rfl) (tb_at tk_X8_readItem 39 rfl) (w_X8_readItem cI cZ cQ cW z_o z_weight_a z_wants_a z_wantsMany_a z_st_a z_was_a z_images_a z_isKept_a z_told_a z_text_a z_saidWeight_a z_saidNights_a z_saidWants_a z_saidMany_a z_now_a z_gave_a z_at_a z_way_a z_bestWay_a z_made_a z_people z_known z_toldMany z_trace z_texted z_cursor z_start z_token z_number 1 z_items z_saidPeople z_saidLaw z_ringed z_lumps z_text z_saidWeight z_saidNights z_saidMany z_saidWants) rfl (fun H locs hW hS => ?_)
      exact hQ (z_cursor, z_start, z_token, z_number, 1, z_saidPeople, z_saidLaw, z_saidWeight, z_saidNights, z_saidMany, z_saidWants) _ _ _ 78 h hW hS (tb_at tk_X8_readItem 40 rfl)
    · have h := it_t cc h
      refine lv_iload_n (pc := 69) hx hb (tb_at tk_X8_readItem 35 rfl) rfl (lv_at hl 0 rfl) ?_
      refine lv_if_ne (pc := 70) (tgt := 79) hx hb (tb_at tk_X8_readItem 36 rfl) (by decide) (fun cc => ?_) (fun cc => ?_)
      · have h := it_f cc h
        refine lv_aload_n (pc := 79) hx hb (tb_at tk_X8_readItem 41 rfl) rfl (lv_at hl 1 rfl) ?_
        refine k_callv (pc := 80) B (k_runVv (rest := []) (C := RX8) B (c_X8_next l dC dI cI cZ cQ cW z_o z_weight_a z_wants_a z_wantsMany_a z_st_a z_was_a z_images_a z_isKept_a z_told_a z_text_a z_saidWeight_a z_saidNights_a z_saidWants_a z_saidMany_a z_now_a z_gave_a z_at_a z_way_a z_bestWay_a z_made_a z_people z_known z_toldMany z_trace z_texted z_cursor z_start z_token z_number z_isWrong z_items z_saidPeople z_saidLaw z_ringed z_lumps z_text  N _ res h) E0_st (fun _ _ _ => trivial) q_c_X8_next q_m_X8_103 q_i_X8_next q_s_X8_next q_n_X8 hd_X8_next ⟨rfl, rfl⟩ ⟨Nat.le_of_ble_eq_true rfl, Nat.le_of_ble_eq_true rfl⟩ hW [0, 1] rfl (by decide +kernel) (q0 := 0) (ci := 8) rfl rfl rfl hl.1 rfl (Nat.le_of_ble_eq_true rfl) (tb_at tk_X8_readItem 42 rfl) ⟨Nat.zero_le _, Nat.zero_le _⟩) hW hS [0, 1] rfl [z_o, z_text_a] rfl (fun _ => rfl) [some 0, some 1, none, none, none, none] (by decide +kernel) (fun u => (w_X8_readItem cI cZ cQ cW z_o z_weight_a z_wants_a z_wantsMany_a z_st_a z_was_a z_images_a z_isKept_a z_told_a z_text_a z_saidWeight_a z_saidNights_a z_saidWants_a z_saidMany_a z_now_a z_gave_a z_at_a z_way_a z_bestWay_a z_made_a z_people z_known z_toldMany z_trace z_texted u.1 u.2.1 u.2.2.1 u.2.2.2 z_isWrong z_items z_saidPeople z_saidLaw z_ringed z_lumps z_text z_saidWeight z_saidNights z_saidMany z_saidWants)) (fun _ => rfl) (fun u H locs h hW hS => ?_)
        obtain ⟨z_cursor_80, z_start_80, z_token_80, z_number_80⟩ := u
        dsimp only at h
        have hW : PD (dC, dI) A (w_X8_readItem cI cZ cQ cW z_o z_weight_a z_wants_a z_wantsMany_a z_st_a z_was_a z_images_a z_isKept_a z_told_a z_text_a z_saidWeight_a z_saidNights_a z_saidWants_a z_saidMany_a z_now_a z_gave_a z_at_a z_way_a z_bestWay_a z_made_a z_people z_known z_toldMany z_trace z_texted z_cursor_80 z_start_80 z_token_80 z_number_80 z_isWrong z_items z_saidPeople z_saidLaw z_ringed z_lumps z_text z_saidWeight z_saidNights z_saidMany z_saidWants) H := hW
        refine lv_iload_n (pc := 83) hx hb (tb_at tk_X8_readItem 43 rfl) rfl (lv_at hl 2 rfl) ?_
        refine lv_bipush (pc := 84) (v := 112) hx hb (tb_at tk_X8_readItem 44 rfl) (by decide) ?_
        have w119 : ∀ (z_cursor_j119 : Int32) (z_start_j119 : Int32) (z_token_j119 : Int32) (z_number_j119 : Int32) (z_isWrong_j119 : Int32) (z_saidPeople_j119 : Int32) (z_saidLaw_j119 : Int32) (z_saidWeight_j119 : Nat → Int32) (z_saidNights_j119 : Nat → Int32) (z_saidMany_j119 : Nat → Int32) (z_saidWants_j119 : Nat → Int32) (H : Heap) (locs : List Loc) (ls : Array Slot), f_X8_readItem_j119 z_texted z_text k N z_cursor_j119 z_start_j119 z_token_j119 z_number_j119 z_isWrong_j119 z_saidPeople_j119 z_saidLaw_j119 z_saidWeight_j119 z_saidNights_j119 z_saidMany_j119 z_saidWants_j119 = some res → PD (dC, dI) A (w_X8_readItem cI cZ cQ cW z_o z_weight_a z_wants_a z_wantsMany_a z_st_a z_was_a z_images_a z_isKept_a z_told_a z_text_a z_saidWeight_a z_saidNights_a z_saidWants_a z_saidMany_a z_now_a z_gave_a z_at_a z_way_a z_bestWay_a z_made_a z_people z_known z_toldMany z_trace z_texted z_cursor_j119 z_start_j119 z_token_j119 z_number_j119 z_isWrong_j119 z_items z_saidPeople_j119 z_saidLaw_j119 z_ringed z_lumps z_text z_saidWeight_j119 z_saidNights_j119 z_saidMany_j119 z_saidWants_j119) H → va_S A s.heap H locs → lv_has ls 3 [(0, .ref z_o)] → W p l e rm_X8_readItem s m args below meth c H locs 0 0 Q (F0 m 119 ls []) := by
          intro z_cursor_j119 z_start_j119 z_token_j119 z_number_j119 z_isWrong_j119 z_saidPeople_j119 z_saidLaw_j119 z_saidWeight_j119 z_saidNights_j119 z_saidMany_j119 z_saidWants_j119 H locs ls h hW hS hl
          unfold f_X8_readItem_j119 at h
          refine lv_aload_n (pc := 119) hx hb (tb_at tk_X8_readItem 61 rfl) rfl (lv_at hl 0 rfl) ?_
          refine lv_aload_n (pc := 120) hx hb (tb_at tk_X8_readItem 62 rfl) rfl (lv_at hl 0 rfl) ?_
          refine k_get (pc := 121) (v := .int z_isWrong_j119) (T := TX8) B inG8 hW 0 rfl rfl 18 (by decide) q_f_X8_99 rfl rfl (tb_at tk_X8_readItem 63 rfl) ?_
          have w140 : ∀ (s1_j140 : Int32) (H : Heap) (locs : List Loc) (ls : Array Slot), f_X8_readItem_j140 z_texted z_text z_cursor_j119 z_start_j119 z_token_j119 z_number_j119 z_saidPeople_j119 z_saidLaw_j119 z_saidWeight_j119 z_saidNights_j119 z_saidMany_j119 z_saidWants_j119 k N s1_j140 = some res → PD (dC, dI) A (w_X8_readItem cI cZ cQ cW z_o z_weight_a z_wants_a z_wantsMany_a z_st_a z_was_a z_images_a z_isKept_a z_told_a z_text_a z_saidWeight_a z_saidNights_a z_saidWants_a z_saidMany_a z_now_a z_gave_a z_at_a z_way_a z_bestWay_a z_made_a z_people z_known z_toldMany z_trace z_texted z_cursor_j119 z_start_j119 z_token_j119 z_number_j119 z_isWrong_j119 z_items z_saidPeople_j119 z_saidLaw_j119 z_ringed z_lumps z_text z_saidWeight_j119 z_saidNights_j119 z_saidMany_j119 z_saidWants_j119) H → va_S A s.heap H locs → lv_has ls 3 [(0, .ref z_o)] → W p l e rm_X8_readItem s m args below meth c H locs 0 0 Q (F0 m 140 ls [.int s1_j140, .ref z_o]) := by
            intro s1_j140 H locs ls h hW hS hl
            unfold f_X8_readItem_j140 at h
            have zz := ck_l h
            have h := ck_r h
            refine k_put (pc := 140) (T := TX8) B inG8 tyX8 tyX8_ok nmX8 hW hS 0 rfl rfl 18 (by decide) q_f_X8_99 rfl rfl (isZ_n zz) (isZ_f zz) (Nat.le_of_ble_eq_true rfl) (tb_at tk_X8_readItem 72 rfl) (w_X8_readItem cI cZ cQ cW z_o z_weight_a z_wants_a z_wantsMany_a z_st_a z_was_a z_images_a z_isKept_a z_told_a z_text_a z_saidWeight_a z_saidNights_a z_saidWants_a z_saidMany_a z_now_a z_gave_a z_at_a z_way_a z_bestWay_a z_made_a z_people z_known z_toldMany z_trace z_texted z_cursor_j119 z_start_j119 z_token_j119 z_number_j119 s1_j140 z_items z_saidPeople_j119 z_saidLaw_j119 z_ringed z_lumps z_text z_saidWeight_j119 z_saidNights_j119 z_saidMany_j119 z_saidWants_j119) rfl (fun H locs hW hS => ?_)
            refine lv_aload_n (pc := 143) hx hb (tb_at tk_X8_readItem 73 rfl) rfl (lv_at hl 0 rfl) ?_
            refine k_get (pc := 144) (v := .int s1_j140) (T := TX8) B inG8 hW 0 rfl rfl 18 (by decide) q_f_X8_99 rfl rfl (tb_at tk_X8_readItem 74 rfl) ?_
            refine lv_if_ne (pc := 147) (tgt := 154) hx hb (tb_at tk_X8_readItem 75 rfl) (by decide) (fun cc => ?_) (fun cc => ?_)
            · have h := it_f cc h
              exact hQ (z_cursor_j119, z_start_j119, z_token_j119, z_number_j119, s1_j140, z_saidPeople_j119, z_saidLaw_j119, z_saidWeight_j119, z_saidNights_j119, z_saidMany_j119, z_saidWants_j119) _ _ _ 154 h hW hS (tb_at tk_X8_readItem 78 rfl)
            · have h := it_t cc h
              refine lv_aload_n (pc := 150) hx hb (tb_at tk_X8_readItem 76 rfl) rfl (lv_at hl 0 rfl) ?_
              refine k_callv (pc := 151) B (k_runVv (rest := []) (C := RX8) B (c_X8_next l dC dI cI cZ cQ cW z_o z_weight_a z_wants_a z_wantsMany_a z_st_a z_was_a z_images_a z_isKept_a z_told_a z_text_a z_saidWeight_a z_saidNights_a z_saidWants_a z_saidMany_a z_now_a z_gave_a z_at_a z_way_a z_bestWay_a z_made_a z_people z_known z_toldMany z_trace z_texted z_cursor_j119 z_start_j119 z_token_j119 z_number_j119 s1_j140 z_items z_saidPeople_j119 z_saidLaw_j119 z_ringed z_lumps z_text  N _ res h) E0_st (fun _ _ _ => trivial) q_c_X8_next q_m_X8_103 q_i_X8_next q_s_X8_next q_n_X8 hd_X8_next ⟨rfl, rfl⟩ ⟨Nat.le_of_ble_eq_true rfl, Nat.le_of_ble_eq_true rfl⟩ hW [0, 1] rfl (by decide +kernel) (q0 := 0) (ci := 8) rfl rfl rfl hl.1 rfl (Nat.le_of_ble_eq_true rfl) (tb_at tk_X8_readItem 77 rfl) ⟨Nat.zero_le _, Nat.zero_le _⟩) hW hS [0, 1] rfl [z_o, z_text_a] rfl (fun _ => rfl) [some 0, some 1, none, none, none, none] (by decide +kernel) (fun u => (w_X8_readItem cI cZ cQ cW z_o z_weight_a z_wants_a z_wantsMany_a z_st_a z_was_a z_images_a z_isKept_a z_told_a z_text_a z_saidWeight_a z_saidNights_a z_saidWants_a z_saidMany_a z_now_a z_gave_a z_at_a z_way_a z_bestWay_a z_made_a z_people z_known z_toldMany z_trace z_texted u.1 u.2.1 u.2.2.1 u.2.2.2 s1_j140 z_items z_saidPeople_j119 z_saidLaw_j119 z_ringed z_lumps z_text z_saidWeight_j119 z_saidNights_j119 z_saidMany_j119 z_saidWants_j119)) (fun _ => rfl) (fun u H locs h hW hS => ?_)
              obtain ⟨z_cursor_151, z_start_151, z_token_151, z_number_151⟩ := u
              dsimp only at h
              have hW : PD (dC, dI) A (w_X8_readItem cI cZ cQ cW z_o z_weight_a z_wants_a z_wantsMany_a z_st_a z_was_a z_images_a z_isKept_a z_told_a z_text_a z_saidWeight_a z_saidNights_a z_saidWants_a z_saidMany_a z_now_a z_gave_a z_at_a z_way_a z_bestWay_a z_made_a z_people z_known z_toldMany z_trace z_texted z_cursor_151 z_start_151 z_token_151 z_number_151 s1_j140 z_items z_saidPeople_j119 z_saidLaw_j119 z_ringed z_lumps z_text z_saidWeight_j119 z_saidNights_j119 z_saidMany_j119 z_saidWants_j119) H := hW
              exact hQ (z_cursor_151, z_start_151, z_token_151, z_number_151, s1_j140, z_saidPeople_j119, z_saidLaw_j119, z_saidWeight_j119, z_saidNights_j119, z_saidMany_j119, z_saidWants_j119) _ _ _ 154 h hW hS (tb_at tk_X8_readItem 78 rfl)
          have w135 : ∀ (H : Heap) (locs : List Loc) (ls : Array Slot), f_X8_readItem_j135 z_texted z_text z_cursor_j119 z_start_j119 z_token_j119 z_number_j119 z_saidPeople_j119 z_saidLaw_j119 z_saidWeight_j119 z_saidNights_j119 z_saidMany_j119 z_saidWants_j119 k N = some res → PD (dC, dI) A (w_X8_readItem cI cZ cQ cW z_o z_weight_a z_wants_a z_wantsMany_a z_st_a z_was_a z_images_a z_isKept_a z_told_a z_text_a z_saidWeight_a z_saidNights_a z_saidWants_a z_saidMany_a z_now_a z_gave_a z_at_a z_way_a z_bestWay_a z_made_a z_people z_known z_toldMany z_trace z_texted z_cursor_j119 z_start_j119 z_token_j119 z_number_j119 z_isWrong_j119 z_items z_saidPeople_j119 z_saidLaw_j119 z_ringed z_lumps z_text z_saidWeight_j119 z_saidNights_j119 z_saidMany_j119 z_saidWants_j119) H → va_S A s.heap H locs → lv_has ls 3 [(0, .ref z_o)] → W p l e rm_X8_readItem s m args below meth c H locs 0 0 Q (F0 m 135 ls [.ref z_o]) := by
            intro H locs ls h hW hS hl
            unfold f_X8_readItem_j135 at h
            refine lv_iconst (pc := 135) (v := 1) hx hb (tb_at tk_X8_readItem 69 rfl) (by decide) ?_
            refine lv_goto (pc := 136) (tgt := 140) hx hb (tb_at tk_X8_readItem 70 rfl) (by decide) ?_
            exact w140 1 _ _ _ h hW hS (lv_sub hl [0] rfl)
          refine lv_if_ne (pc := 124) (tgt := 135) hx hb (tb_at tk_X8_readItem 64 rfl) (by decide) (fun cc => ?_) (fun cc => ?_)
          · have h := it_f cc h
            exact w135  _ _ _ h hW hS (lv_sub hl [0] rfl)
          · have h := it_t cc h
            refine lv_aload_n (pc := 127) hx hb (tb_at tk_X8_readItem 65 rfl) rfl (lv_at hl 0 rfl) ?_
            refine k_get (pc := 128) (v := .int z_token_j119) (T := TX8) B inG8 hW 0 rfl rfl 16 (by decide) q_f_X8_92 rfl rfl (tb_at tk_X8_readItem 66 rfl) ?_
            refine lv_iconst (pc := 131) (v := 3) hx hb (tb_at tk_X8_readItem 67 rfl) (by decide) ?_
            refine lv_icmp_eq (pc := 132) (tgt := 139) hx hb (tb_at tk_X8_readItem 68 rfl) (by decide) (fun cc => ?_) (fun cc => ?_)
            · have h := it_t cc h
              refine lv_iconst (pc := 139) (v := 0) hx hb (tb_at tk_X8_readItem 71 rfl) (by decide) ?_
              exact w140 0 _ _ _ h hW hS (lv_sub hl [0] rfl)
            · have h := it_f cc h
              exact w135  _ _ _ h hW hS (lv_sub hl [0] rfl)
        refine lv_icmp_ne (pc := 86) (tgt := 96) hx hb (tb_at tk_X8_readItem 45 rfl) (by decide) (fun cc => ?_) (fun cc => ?_)
        · have h := it_f cc h
          refine lv_iload_n (pc := 96) hx hb (tb_at tk_X8_readItem 49 rfl) rfl (lv_at hl 2 rfl) ?_
          refine lv_bipush (pc := 97) (v := 119) hx hb (tb_at tk_X8_readItem 50 rfl) (by decide) ?_
          refine lv_icmp_ne (pc := 99) (tgt := 109) hx hb (tb_at tk_X8_readItem 51 rfl) (by decide) (fun cc => ?_) (fun cc => ?_)
          · have h := it_f cc h
            refine lv_aload_n (pc := 109) hx hb (tb_at tk_X8_readItem 55 rfl) rfl (lv_at hl 1 rfl) ?_
            refine lv_aload_n (pc := 110) hx hb (tb_at tk_X8_readItem 56 rfl) rfl (lv_at hl 1 rfl) ?_
            refine lv_iconst (pc := 111) (v := 0) hx hb (tb_at tk_X8_readItem 57 rfl) (by decide) ?_
            refine lv_iconst (pc := 112) (v := 2) hx hb (tb_at tk_X8_readItem 58 rfl) (by decide) ?_
            refine k_calli (pc := 113) B (k_runVi (rest := [.ref z_o]) (C := RX8) B (c_X8_takesNumber l dC dI cI cZ cQ cW z_o z_weight_a z_wants_a z_wantsMany_a z_st_a z_was_a z_images_a z_isKept_a z_told_a z_text_a z_saidWeight_a z_saidNights_a z_saidWants_a z_saidMany_a z_now_a z_gave_a z_at_a z_way_a z_bestWay_a z_made_a z_people z_known z_toldMany z_trace z_texted z_cursor_80 z_start_80 z_token_80 z_number_80 z_isWrong z_items z_saidPeople z_saidLaw z_ringed z_lumps z_text 0 2 N _ res h) E0_st (fun _ _ _ => trivial) q_c_X8_takesNumber q_m_X8_109 q_i_X8_takesNumber q_s_X8_takesNumber q_n_X8 hd_X8_takesNumber ⟨rfl, rfl⟩ ⟨Nat.le_of_ble_eq_true rfl, Nat.le_of_ble_eq_true rfl⟩ hW [0, 1] rfl (by decide +kernel) (q0 := 0) (ci := 8) rfl rfl rfl hl.1 rfl (Nat.le_of_ble_eq_true rfl) (tb_at tk_X8_readItem 59 rfl) ⟨Nat.zero_le _, Nat.zero_le _⟩) hW hS [0, 1] rfl [z_o, z_text_a] rfl (fun _ => rfl) [some 0, some 1, none, none, none, none] (by decide +kernel) (fun u => (w_X8_readItem cI cZ cQ cW z_o z_weight_a z_wants_a z_wantsMany_a z_st_a z_was_a z_images_a z_isKept_a z_told_a z_text_a z_saidWeight_a z_saidNights_a z_saidWants_a z_saidMany_a z_now_a z_gave_a z_at_a z_way_a z_bestWay_a z_made_a z_people z_known z_toldMany z_trace z_texted u.1 u.2.1 u.2.2.1 u.2.2.2.1 u.2.2.2.2 z_items z_saidPeople z_saidLaw z_ringed z_lumps z_text z_saidWeight z_saidNights z_saidMany z_saidWants)) (fun _ => rfl) (fun r113 u H locs h hW hS => ?_)
            obtain ⟨z_cursor_113, z_start_113, z_token_113, z_number_113, z_isWrong_113⟩ := u
            dsimp only at h
            have hW : PD (dC, dI) A (w_X8_readItem cI cZ cQ cW z_o z_weight_a z_wants_a z_wantsMany_a z_st_a z_was_a z_images_a z_isKept_a z_told_a z_text_a z_saidWeight_a z_saidNights_a z_saidWants_a z_saidMany_a z_now_a z_gave_a z_at_a z_way_a z_bestWay_a z_made_a z_people z_known z_toldMany z_trace z_texted z_cursor_113 z_start_113 z_token_113 z_number_113 z_isWrong_113 z_items z_saidPeople z_saidLaw z_ringed z_lumps z_text z_saidWeight z_saidNights z_saidMany z_saidWants) H := hW
            refine k_put (pc := 116) (T := TX8) B inG8 tyX8 tyX8_ok nmX8 hW hS 0 rfl rfl 25 (by decide) q_f_X8_117 rfl rfl rfl rfl (Nat.le_of_ble_eq_true rfl) (tb_at tk_X8_readItem 60 rfl) (w_X8_readItem cI cZ cQ cW z_o z_weight_a z_wants_a z_wantsMany_a z_st_a z_was_a z_images_a z_isKept_a z_told_a z_text_a z_saidWeight_a z_saidNights_a z_saidWants_a z_saidMany_a z_now_a z_gave_a z_at_a z_way_a z_bestWay_a z_made_a z_people z_known z_toldMany z_trace z_texted z_cursor_113 z_start_113 z_token_113 z_number_113 z_isWrong_113 z_items z_saidPeople r113 z_ringed z_lumps z_text z_saidWeight z_saidNights z_saidMany z_saidWants) rfl (fun H locs hW hS => ?_)
            exact w119 z_cursor_113 z_start_113 z_token_113 z_number_113 z_isWrong_113 z_saidPeople r113 z_saidWeight z_saidNights z_saidMany z_saidWants _ _ _ h hW hS (lv_sub hl [1] rfl)
          · have h := it_t cc h
            refine lv_aload_n (pc := 102) hx hb (tb_at tk_X8_readItem 52 rfl) rfl (lv_at hl 1 rfl) ?_
            refine k_callv (pc := 103) B (k_runVv (rest := []) (C := RX8) B (c_X8_readWants l dC dI cI cZ cQ cW z_o z_weight_a z_wants_a z_wantsMany_a z_st_a z_was_a z_images_a z_isKept_a z_told_a z_text_a z_saidWeight_a z_saidNights_a z_saidWants_a z_saidMany_a z_now_a z_gave_a z_at_a z_way_a z_bestWay_a z_made_a z_people z_known z_toldMany z_trace z_texted z_cursor_80 z_start_80 z_token_80 z_number_80 z_isWrong z_items z_saidPeople z_saidLaw z_ringed z_lumps z_text z_saidWants z_saidMany  N _ res h) E0_st (fun _ _ _ => trivial) q_c_X8_readWants q_m_X8_123 q_i_X8_readWants q_s_X8_readWants q_n_X8 hd_X8_readWants ⟨rfl, rfl⟩ ⟨Nat.le_of_ble_eq_true rfl, Nat.le_of_ble_eq_true rfl⟩ hW [0, 1, 5, 4] rfl (by decide +kernel) (q0 := 0) (ci := 8) rfl rfl rfl hl.1 rfl (Nat.le_of_ble_eq_true rfl) (tb_at tk_X8_readItem 53 rfl) ⟨Nat.zero_le _, Nat.zero_le _⟩) hW hS [0, 1, 5, 4] rfl [z_o, z_text_a, z_saidWants_a, z_saidMany_a] rfl (fun _ => rfl) [some 0, some 1, none, none, some 3, some 2] (by decide +kernel) (fun u => (w_X8_readItem cI cZ cQ cW z_o z_weight_a z_wants_a z_wantsMany_a z_st_a z_was_a z_images_a z_isKept_a z_told_a z_text_a z_saidWeight_a z_saidNights_a z_saidWants_a z_saidMany_a z_now_a z_gave_a z_at_a z_way_a z_bestWay_a z_made_a z_people z_known z_toldMany z_trace z_texted u.1 u.2.1 u.2.2.1 u.2.2.2.1 u.2.2.2.2.1 z_items z_saidPeople z_saidLaw z_ringed z_lumps z_text z_saidWeight z_saidNights u.2.2.2.2.2.2 u.2.2.2.2.2.1)) (fun _ => rfl) (fun u H locs h hW hS => ?_)
            obtain ⟨z_cursor_103, z_start_103, z_token_103, z_number_103, z_isWrong_103, z_saidWants_103, z_saidMany_103⟩ := u
            dsimp only at h
            have hW : PD (dC, dI) A (w_X8_readItem cI cZ cQ cW z_o z_weight_a z_wants_a z_wantsMany_a z_st_a z_was_a z_images_a z_isKept_a z_told_a z_text_a z_saidWeight_a z_saidNights_a z_saidWants_a z_saidMany_a z_now_a z_gave_a z_at_a z_way_a z_bestWay_a z_made_a z_people z_known z_toldMany z_trace z_texted z_cursor_103 z_start_103 z_token_103 z_number_103 z_isWrong_103 z_items z_saidPeople z_saidLaw z_ringed z_lumps z_text z_saidWeight z_saidNights z_saidMany_103 z_saidWants_103) H := hW
            refine lv_goto (pc := 106) (tgt := 119) hx hb (tb_at tk_X8_readItem 54 rfl) (by decide) ?_
            exact w119 z_cursor_103 z_start_103 z_token_103 z_number_103 z_isWrong_103 z_saidPeople z_saidLaw z_saidWeight z_saidNights z_saidMany_103 z_saidWants_103 _ _ _ h hW hS (lv_sub hl [1] rfl)
        · have h := it_t cc h
          refine lv_aload_n (pc := 89) hx hb (tb_at tk_X8_readItem 46 rfl) rfl (lv_at hl 1 rfl) ?_
          refine k_callv (pc := 90) B (k_runVv (rest := []) (C := RX8) B (c_X8_readPerson l dC dI cI cZ cQ cW z_o z_weight_a z_wants_a z_wantsMany_a z_st_a z_was_a z_images_a z_isKept_a z_told_a z_text_a z_saidWeight_a z_saidNights_a z_saidWants_a z_saidMany_a z_now_a z_gave_a z_at_a z_way_a z_bestWay_a z_made_a z_people z_known z_toldMany z_trace z_texted z_cursor_80 z_start_80 z_token_80 z_number_80 z_isWrong z_items z_saidPeople z_saidLaw z_ringed z_lumps z_text z_saidWeight z_saidNights z_saidMany  N _ res h) E0_st (fun _ _ _ => trivial) q_c_X8_readPerson q_m_X8_120 q_i_X8_readPerson q_s_X8_readPerson q_n_X8 hd_X8_readPerson ⟨rfl, rfl⟩ ⟨Nat.le_of_ble_eq_true rfl, Nat.le_of_ble_eq_true rfl⟩ hW [0, 1, 2, 3, 4] rfl (by decide +kernel) (q0 := 0) (ci := 8) rfl rfl rfl hl.1 rfl (Nat.le_of_ble_eq_true rfl) (tb_at tk_X8_readItem 47 rfl) ⟨Nat.zero_le _, Nat.zero_le _⟩) hW hS [0, 1, 2, 3, 4] rfl [z_o, z_text_a, z_saidWeight_a, z_saidNights_a, z_saidMany_a] rfl (fun _ => rfl) [some 0, some 1, some 2, some 3, some 4, none] (by decide +kernel) (fun u => (w_X8_readItem cI cZ cQ cW z_o z_weight_a z_wants_a z_wantsMany_a z_st_a z_was_a z_images_a z_isKept_a z_told_a z_text_a z_saidWeight_a z_saidNights_a z_saidWants_a z_saidMany_a z_now_a z_gave_a z_at_a z_way_a z_bestWay_a z_made_a z_people z_known z_toldMany z_trace z_texted u.1 u.2.1 u.2.2.1 u.2.2.2.1 u.2.2.2.2.1 z_items u.2.2.2.2.2.1 z_saidLaw z_ringed z_lumps z_text u.2.2.2.2.2.2.1 u.2.2.2.2.2.2.2.1 u.2.2.2.2.2.2.2.2 z_saidWants)) (fun _ => rfl) (fun u H locs h hW hS => ?_)
          obtain ⟨z_cursor_90, z_start_90, z_token_90, z_number_90, z_isWrong_90, z_saidPeople_90, z_saidWeight_90, z_saidNights_90, z_saidMany_90⟩ := u
          dsimp only at h
          have hW : PD (dC, dI) A (w_X8_readItem cI cZ cQ cW z_o z_weight_a z_wants_a z_wantsMany_a z_st_a z_was_a z_images_a z_isKept_a z_told_a z_text_a z_saidWeight_a z_saidNights_a z_saidWants_a z_saidMany_a z_now_a z_gave_a z_at_a z_way_a z_bestWay_a z_made_a z_people z_known z_toldMany z_trace z_texted z_cursor_90 z_start_90 z_token_90 z_number_90 z_isWrong_90 z_items z_saidPeople_90 z_saidLaw z_ringed z_lumps z_text z_saidWeight_90 z_saidNights_90 z_saidMany_90 z_saidWants) H := hW
          refine lv_goto (pc := 93) (tgt := 119) hx hb (tb_at tk_X8_readItem 48 rfl) (by decide) ?_
          exact w119 z_cursor_90 z_start_90 z_token_90 z_number_90 z_isWrong_90 z_saidPeople_90 z_saidLaw z_saidWeight_90 z_saidNights_90 z_saidMany_90 z_saidWants _ _ _ h hW hS (lv_sub hl [1] rfl)
      · have h := it_t cc h
        refine lv_aload_n (pc := 73) hx hb (tb_at tk_X8_readItem 37 rfl) rfl (lv_at hl 1 rfl) ?_
        refine lv_iconst (pc := 74) (v := 1) hx hb (tb_at tk_X8_readItem 38 rfl) (by decide) ?_
        refine k_put (pc := 75) (T := TX8) B inG8 tyX8 tyX8_ok nmX8 hW hS 0 rfl rfl 18 (by decide) q_f_X8_99 rfl rfl nz1 fz1 (Nat.le_of_ble_eq_true rfl) (tb_at tk_X8_readItem 39 rfl) (w_X8_readItem cI cZ cQ cW z_o z_weight_a z_wants_a z_wantsMany_a z_st_a z_was_a z_images_a z_isKept_a z_told_a z_text_a z_saidWeight_a z_saidNights_a z_saidWants_a z_saidMany_a z_now_a z_gave_a z_at_a z_way_a z_bestWay_a z_made_a z_people z_known z_toldMany z_trace z_texted z_cursor z_start z_token z_number 1 z_items z_saidPeople z_saidLaw z_ringed z_lumps z_text z_saidWeight z_saidNights z_saidMany z_saidWants) rfl (fun H locs hW hS => ?_)
        exact hQ (z_cursor, z_start, z_token, z_number, 1, z_saidPeople, z_saidLaw, z_saidWeight, z_saidNights, z_saidMany, z_saidWants) _ _ _ 78 h hW hS (tb_at tk_X8_readItem 40 rfl)
  refine lv_icmp_ne (pc := 8) (tgt := 28) hx hb (tb_at tk_X8_readItem 5 rfl) (by decide) (fun cc => ?_) (fun cc => ?_)
  · have h := it_f cc h
    refine lv_iload_n (pc := 28) hx hb (tb_at tk_X8_readItem 14 rfl) rfl (lv_at hl 0 rfl) ?_
    refine lv_bipush (pc := 29) (v := 108) hx hb (tb_at tk_X8_readItem 15 rfl) (by decide) ?_
    refine lv_icmp_ne (pc := 31) (tgt := 49) hx hb (tb_at tk_X8_readItem 16 rfl) (by decide) (fun cc => ?_) (fun cc => ?_)
    · have h := it_f cc h
      refine lv_iload_n (pc := 49) hx hb (tb_at tk_X8_readItem 24 rfl) rfl (lv_at hl 0 rfl) ?_
      refine lv_bipush (pc := 50) (v := 119) hx hb (tb_at tk_X8_readItem 25 rfl) (by decide) ?_
      refine lv_icmp_ne (pc := 52) (tgt := 59) hx hb (tb_at tk_X8_readItem 26 rfl) (by decide) (fun cc => ?_) (fun cc => ?_)
      · have h := it_f cc h
        refine lv_iconst (pc := 59) (v := 0) hx hb (tb_at tk_X8_readItem 29 rfl) (by decide) ?_
        exact w60 0 _ _ _ h hW hS (lv_sub hl [1, 0] rfl)
      · have h := it_t cc h
        refine lv_iconst (pc := 55) (v := 1) hx hb (tb_at tk_X8_readItem 27 rfl) (by decide) ?_
        refine lv_goto (pc := 56) (tgt := 60) hx hb (tb_at tk_X8_readItem 28 rfl) (by decide) ?_
        exact w60 1 _ _ _ h hW hS (lv_sub hl [1, 0] rfl)
    · have h := it_t cc h
      refine lv_aload_n (pc := 34) hx hb (tb_at tk_X8_readItem 17 rfl) rfl (lv_at hl 1 rfl) ?_
      refine k_get (pc := 35) (v := .int z_saidLaw) (T := TX8) B inG8 hW 0 rfl rfl 25 (by decide) q_f_X8_117 rfl rfl (tb_at tk_X8_readItem 18 rfl) ?_
      refine lv_if_ge (pc := 38) (tgt := 45) hx hb (tb_at tk_X8_readItem 19 rfl) (by decide) (fun cc => ?_) (fun cc => ?_)
      · have h := it_t cc h
        refine lv_iconst (pc := 45) (v := 0) hx hb (tb_at tk_X8_readItem 22 rfl) (by decide) ?_
        refine lv_goto (pc := 46) (tgt := 60) hx hb (tb_at tk_X8_readItem 23 rfl) (by decide) ?_
        exact w60 0 _ _ _ h hW hS (lv_sub hl [1, 0] rfl)
      · have h := it_f cc h
        refine lv_iconst (pc := 41) (v := 1) hx hb (tb_at tk_X8_readItem 20 rfl) (by decide) ?_
        refine lv_goto (pc := 42) (tgt := 60) hx hb (tb_at tk_X8_readItem 21 rfl) (by decide) ?_
        exact w60 1 _ _ _ h hW hS (lv_sub hl [1, 0] rfl)
  · have h := it_t cc h
    refine lv_aload_n (pc := 11) hx hb (tb_at tk_X8_readItem 6 rfl) rfl (lv_at hl 1 rfl) ?_
    refine k_get (pc := 12) (v := .int z_saidPeople) (T := TX8) B inG8 hW 0 rfl rfl 20 (by decide) q_f_X8_106 rfl rfl (tb_at tk_X8_readItem 7 rfl) ?_
    refine lv_bipush (pc := 15) (v := 6) hx hb (tb_at tk_X8_readItem 8 rfl) (by decide) ?_
    refine lv_icmp_ge (pc := 17) (tgt := 24) hx hb (tb_at tk_X8_readItem 9 rfl) (by decide) (fun cc => ?_) (fun cc => ?_)
    · have h := it_t cc h
      refine lv_iconst (pc := 24) (v := 0) hx hb (tb_at tk_X8_readItem 12 rfl) (by decide) ?_
      refine lv_goto (pc := 25) (tgt := 60) hx hb (tb_at tk_X8_readItem 13 rfl) (by decide) ?_
      exact w60 0 _ _ _ h hW hS (lv_sub hl [1, 0] rfl)
    · have h := it_f cc h
      refine lv_iconst (pc := 20) (v := 1) hx hb (tb_at tk_X8_readItem 10 rfl) (by decide) ?_
      refine lv_goto (pc := 21) (tgt := 60) hx hb (tb_at tk_X8_readItem 11 rfl) (by decide) ?_
      exact w60 1 _ _ _ h hW hS (lv_sub hl [1, 0] rfl)
def f_X8_settles_j138 {ρ : Type} (z_isKept : Nat → Int32) (z_saidPeople : Int32) (z_st_e91 : Nat → Int32) (z_weight_e91 : Nat → Int32) (z_wantsMany_e91 : Nat → Int32) (z_wants_e117 : Nat → Int32) (k : Int32 → Int32 → Int32 → Int32 → (Nat → Int32) → (Nat → Int32) → (Nat → Int32) → (Nat → Int32) → (Nat → Int32) → Option ρ) (s2_j138 : Int32) : Option ρ := ck (ivi (24 : Int32) 25) (ck (ivi (0 : Int32) 2) (ck (ivi (1 : Int32) 2) (k z_saidPeople 0 0 0 (upd z_st_e91 ((24 : Int32)).toNatClampNeg s2_j138) z_weight_e91 z_wantsMany_e91 z_wants_e117 (upd (upd z_isKept ((0 : Int32)).toNatClampNeg 0) ((1 : Int32)).toNatClampNeg 0))))
def f_X8_settles_e117 {ρ : Type} (z_isKept : Nat → Int32) (z_saidPeople : Int32) (z_saidLaw : Int32) (z_st_e91 : Nat → Int32) (z_weight_e91 : Nat → Int32) (z_wantsMany_e91 : Nat → Int32) (k : Int32 → Int32 → Int32 → Int32 → (Nat → Int32) → (Nat → Int32) → (Nat → Int32) → (Nat → Int32) → (Nat → Int32) → Option ρ) (z_wants_e117 : Nat → Int32) : Option ρ := if 0 ≤ z_saidLaw then (f_X8_settles_j138 z_isKept z_saidPeople z_st_e91 z_weight_e91 z_wantsMany_e91 z_wants_e117 k z_saidLaw) else (f_X8_settles_j138 z_isKept z_saidPeople z_st_e91 z_weight_e91 z_wantsMany_e91 z_wants_e117 k 0)
def f_X8_settles_l93 {ρ : Type} (z_saidWants : Nat → Int32) (k117 : (Nat → Int32) → Option ρ) : Nat → Int32 → (Nat → Int32) → Option ρ
  | 0, _, _ => none
  | n93 + 1, y1_l93, z_wants_l93 => if 24 ≤ y1_l93 then (k117 z_wants_l93) else (ck (ivi y1_l93 24) (ck (ivi y1_l93 24) ((f_X8_settles_l93 z_saidWants k117 n93) (y1_l93 + 1) (upd z_wants_l93 (y1_l93).toNatClampNeg (z_saidWants (y1_l93).toNatClampNeg)))))
def f_X8_settles_e91 {ρ : Type} (z_wants : Nat → Int32) (z_isKept : Nat → Int32) (z_saidPeople : Int32) (z_saidLaw : Int32) (z_saidWants : Nat → Int32) (k : Int32 → Int32 → Int32 → Int32 → (Nat → Int32) → (Nat → Int32) → (Nat → Int32) → (Nat → Int32) → (Nat → Int32) → Option ρ) (N : Nat) (z_st_e91 : Nat → Int32) (z_weight_e91 : Nat → Int32) (z_wantsMany_e91 : Nat → Int32) : Option ρ := f_X8_settles_l93 z_saidWants (fun z_wants_e117 => f_X8_settles_e117 z_isKept z_saidPeople z_saidLaw z_st_e91 z_weight_e91 z_wantsMany_e91 k z_wants_e117) N 0 z_wants
def f_X8_settles_l31 {ρ : Type} (z_saidWeight : Nat → Int32) (z_saidMany : Nat → Int32) (z_saidNights : Nat → Int32) (k91 : (Nat → Int32) → (Nat → Int32) → (Nat → Int32) → Option ρ) : Nat → Int32 → (Nat → Int32) → (Nat → Int32) → (Nat → Int32) → Option ρ
  | 0, _, _, _, _ => none
  | n31 + 1, y1_l31, z_st_l31, z_weight_l31, z_wantsMany_l31 => if 6 ≤ y1_l31 then (k91 z_st_l31 z_weight_l31 z_wantsMany_l31) else (ck (ivi y1_l31 6) (ck (ivi y1_l31 6) (ck (ivi y1_l31 6) (ck (ivi y1_l31 6) (ck (ivi ((0 : Int32) + y1_l31) 25) (ck (ivi y1_l31 6) (ck (ivi ((6 : Int32) + y1_l31) 25) ((f_X8_settles_l31 z_saidWeight z_saidMany z_saidNights k91 n31) (y1_l31 + 1) (upd (upd z_st_l31 ((0 : Int32) + y1_l31).toNatClampNeg y1_l31) ((6 : Int32) + y1_l31).toNatClampNeg (z_saidNights (y1_l31).toNatClampNeg)) (upd z_weight_l31 (y1_l31).toNatClampNeg (z_saidWeight (y1_l31).toNatClampNeg)) (upd z_wantsMany_l31 (y1_l31).toNatClampNeg (z_saidMany (y1_l31).toNatClampNeg))))))))))
def f_X8_settles_e29 {ρ : Type} (z_weight : Nat → Int32) (z_wantsMany : Nat → Int32) (z_wants : Nat → Int32) (z_isKept : Nat → Int32) (z_saidPeople : Int32) (z_saidLaw : Int32) (z_saidWeight : Nat → Int32) (z_saidMany : Nat → Int32) (z_saidNights : Nat → Int32) (z_saidWants : Nat → Int32) (k : Int32 → Int32 → Int32 → Int32 → (Nat → Int32) → (Nat → Int32) → (Nat → Int32) → (Nat → Int32) → (Nat → Int32) → Option ρ) (N : Nat) (z_st_e29 : Nat → Int32) : Option ρ := f_X8_settles_l31 z_saidWeight z_saidMany z_saidNights (fun z_st_e91 z_weight_e91 z_wantsMany_e91 => f_X8_settles_e91 z_wants z_isKept z_saidPeople z_saidLaw z_saidWants k N z_st_e91 z_weight_e91 z_wantsMany_e91) N 0 z_st_e29 z_weight z_wantsMany
def f_X8_settles_l10 {ρ : Type} (k29 : (Nat → Int32) → Option ρ) : Nat → Int32 → (Nat → Int32) → Option ρ
  | 0, _, _ => none
  | n10 + 1, y1_l10, z_st_l10 => if 25 ≤ y1_l10 then (k29 z_st_l10) else (ck (ivi y1_l10 25) ((f_X8_settles_l10 k29 n10) (y1_l10 + 1) (upd z_st_l10 (y1_l10).toNatClampNeg 0)))
def f_X8_settles {ρ : Type} (N : Nat) (z_saidPeople : Int32) (z_saidLaw : Int32) (z_st : Nat → Int32) (z_saidWeight : Nat → Int32) (z_weight : Nat → Int32) (z_saidMany : Nat → Int32) (z_wantsMany : Nat → Int32) (z_saidNights : Nat → Int32) (z_saidWants : Nat → Int32) (z_wants : Nat → Int32) (z_isKept : Nat → Int32) (k : Int32 → Int32 → Int32 → Int32 → (Nat → Int32) → (Nat → Int32) → (Nat → Int32) → (Nat → Int32) → (Nat → Int32) → Option ρ) : Option ρ := f_X8_settles_l10 (fun z_st_e29 => f_X8_settles_e29 z_weight z_wantsMany z_wants z_isKept z_saidPeople z_saidLaw z_saidWeight z_saidMany z_saidNights z_saidWants k N z_st_e29) N 0 z_st
abbrev w_X8_settles (cI cZ cQ cW : ClassId) (z_o : Nat) (z_weight_a : Nat) (z_wants_a : Nat) (z_wantsMany_a : Nat) (z_st_a : Nat) (z_was_a : Nat) (z_images_a : Nat) (z_isKept_a : Nat) (z_told_a : Nat) (z_text_a : Nat) (z_saidWeight_a : Nat) (z_saidNights_a : Nat) (z_saidWants_a : Nat) (z_saidMany_a : Nat) (z_now_a : Nat) (z_gave_a : Nat) (z_at_a : Nat) (z_way_a : Nat) (z_bestWay_a : Nat) (z_made_a : Nat) (z_people : Int32) (z_known : Int32) (z_toldMany : Int32) (z_trace : Int64) (z_texted : Int32) (z_cursor : Int32) (z_start : Int32) (z_token : Int32) (z_number : Int32) (z_isWrong : Int32) (z_items : Int32) (z_saidPeople : Int32) (z_saidLaw : Int32) (z_ringed : Int32) (z_lumps : Int32) (z_st : Nat → Int32) (z_saidWeight : Nat → Int32) (z_weight : Nat → Int32) (z_saidMany : Nat → Int32) (z_wantsMany : Nat → Int32) (z_saidNights : Nat → Int32) (z_saidWants : Nat → Int32) (z_wants : Nat → Int32) (z_isKept : Nat → Int32) : va_W := [(z_o, .inr (8, [.int z_people, .ref z_weight_a, .ref z_wants_a, .ref z_wantsMany_a, .ref z_st_a, .ref z_was_a, .int z_known, .ref z_images_a, .ref z_isKept_a, .int z_toldMany, .ref z_told_a, .long z_trace, .ref z_text_a, .int z_texted, .int z_cursor, .int z_start, .int z_token, .int z_number, .int z_isWrong, .int z_items, .int z_saidPeople, .ref z_saidWeight_a, .ref z_saidNights_a, .ref z_saidWants_a, .ref z_saidMany_a, .int z_saidLaw, .ref z_now_a, .ref z_gave_a, .ref z_at_a, .int z_ringed, .int z_lumps, .ref z_way_a, .ref z_bestWay_a, .ref z_made_a])), (z_st_a, .inl (cI, 25, .inl z_st)), (z_saidWeight_a, .inl (cI, 6, .inl z_saidWeight)), (z_weight_a, .inl (cI, 6, .inl z_weight)), (z_saidMany_a, .inl (cI, 6, .inl z_saidMany)), (z_wantsMany_a, .inl (cI, 6, .inl z_wantsMany)), (z_saidNights_a, .inl (cI, 6, .inl z_saidNights)), (z_saidWants_a, .inl (cI, 24, .inl z_saidWants)), (z_wants_a, .inl (cI, 24, .inl z_wants)), (z_isKept_a, .inl (cZ, 2, .inl z_isKept))]
abbrev rm_X8_settles : Room := { frames := 0, cells := 0, slots := 0, locals := 0 }
set_option maxHeartbeats 4000000 in
set_option maxRecDepth 100000 in
theorem c_X8_settles (l : Launch) (dC : Nat → ClassId) (dI : Nat → Nat → Nat) (cI cZ cQ cW : ClassId) (z_o : Nat) (z_weight_a : Nat) (z_wants_a : Nat) (z_wantsMany_a : Nat) (z_st_a : Nat) (z_was_a : Nat) (z_images_a : Nat) (z_isKept_a : Nat) (z_told_a : Nat) (z_text_a : Nat) (z_saidWeight_a : Nat) (z_saidNights_a : Nat) (z_saidWants_a : Nat) (z_saidMany_a : Nat) (z_now_a : Nat) (z_gave_a : Nat) (z_at_a : Nat) (z_way_a : Nat) (z_bestWay_a : Nat) (z_made_a : Nat) (z_people : Int32) (z_known : Int32) (z_toldMany : Int32) (z_trace : Int64) (z_texted : Int32) (z_cursor : Int32) (z_start : Int32) (z_token : Int32) (z_number : Int32) (z_isWrong : Int32) (z_items : Int32) (z_saidPeople : Int32) (z_saidLaw : Int32) (z_ringed : Int32) (z_lumps : Int32) (z_st : Nat → Int32) (z_saidWeight : Nat → Int32) (z_weight : Nat → Int32) (z_saidMany : Nat → Int32) (z_wantsMany : Nat → Int32) (z_saidNights : Nat → Int32) (z_saidWants : Nat → Int32) (z_wants : Nat → Int32) (z_isKept : Nat → Int32) {ρ : Type} (N : Nat) (k : Int32 → Int32 → Int32 → Int32 → (Nat → Int32) → (Nat → Int32) → (Nat → Int32) → (Nat → Int32) → (Nat → Int32) → Option ρ) (res : ρ) (h : f_X8_settles N z_saidPeople z_saidLaw z_st z_saidWeight z_weight z_saidMany z_wantsMany z_saidNights z_saidWants z_wants z_isKept k = some res) : Cv l yX8_settles (WS yX8_settles cX8_settles 2 none) rm_X8_settles (dC, dI) (tysG cI cZ cQ cW) E0 [.ref z_o] (w_X8_settles cI cZ cQ cW z_o z_weight_a z_wants_a z_wantsMany_a z_st_a z_was_a z_images_a z_isKept_a z_told_a z_text_a z_saidWeight_a z_saidNights_a z_saidWants_a z_saidMany_a z_now_a z_gave_a z_at_a z_way_a z_bestWay_a z_made_a z_people z_known z_toldMany z_trace z_texted z_cursor z_start z_token z_number z_isWrong z_items z_saidPeople z_saidLaw z_ringed z_lumps z_st z_saidWeight z_weight z_saidMany z_wantsMany z_saidNights z_saidWants z_wants z_isKept) (fun (u : Int32 × Int32 × Int32 × Int32 × (Nat → Int32) × (Nat → Int32) × (Nat → Int32) × (Nat → Int32) × (Nat → Int32)) => (w_X8_settles cI cZ cQ cW z_o z_weight_a z_wants_a z_wantsMany_a z_st_a z_was_a z_images_a z_isKept_a z_told_a z_text_a z_saidWeight_a z_saidNights_a z_saidWants_a z_saidMany_a z_now_a z_gave_a z_at_a z_way_a z_bestWay_a z_made_a u.1 u.2.1 u.2.2.1 z_trace u.2.2.2.1 z_cursor z_start z_token z_number z_isWrong z_items z_saidPeople z_saidLaw z_ringed z_lumps u.2.2.2.2.1 z_saidWeight u.2.2.2.2.2.1 z_saidMany u.2.2.2.2.2.2.1 z_saidNights z_saidWants u.2.2.2.2.2.2.2.1 u.2.2.2.2.2.2.2.2)) (fun u => k u.1 u.2.1 u.2.2.1 u.2.2.2.1 u.2.2.2.2.1 u.2.2.2.2.2.1 u.2.2.2.2.2.2.1 u.2.2.2.2.2.2.2.1 u.2.2.2.2.2.2.2.2 = some res) := by
  refine Cv.of (cc := cX8_settles) (n := 2) (by decide +kernel) (Nat.le_of_ble_eq_true rfl) ?_
  intro p e s m args below meth c A ls Q B hW hE hS hl hQ
  have hx := B.1
  have hb := B.2.1
  have hl : lv_has ls 2 [(0, .ref z_o)] := hl
  unfold f_X8_settles at h
  refine lv_aload_n (pc := 0) hx hb (tb_at tk_X8_settles 0 rfl) rfl (lv_at hl 0 rfl) ?_
  refine lv_aload_n (pc := 1) hx hb (tb_at tk_X8_settles 1 rfl) rfl (lv_at hl 0 rfl) ?_
  refine k_get (pc := 2) (v := .int z_saidPeople) (T := TX8) B inG8 hW 0 rfl rfl 20 (by decide) q_f_X8_106 rfl rfl (tb_at tk_X8_settles 2 rfl) ?_
  refine k_put (pc := 5) (T := TX8) B inG8 tyX8 tyX8_ok nmX8 hW hS 0 rfl rfl 0 (by decide) q_f_X8_68 rfl rfl rfl rfl (Nat.le_of_ble_eq_true rfl) (tb_at tk_X8_settles 3 rfl) (w_X8_settles cI cZ cQ cW z_o z_weight_a z_wants_a z_wantsMany_a z_st_a z_was_a z_images_a z_isKept_a z_told_a z_text_a z_saidWeight_a z_saidNights_a z_saidWants_a z_saidMany_a z_now_a z_gave_a z_at_a z_way_a z_bestWay_a z_made_a z_saidPeople z_known z_toldMany z_trace z_texted z_cursor z_start z_token z_number z_isWrong z_items z_saidPeople z_saidLaw z_ringed z_lumps z_st z_saidWeight z_weight z_saidMany z_wantsMany z_saidNights z_saidWants z_wants z_isKept) rfl (fun H locs hW hS => ?_)
  refine lv_iconst (pc := 8) (v := 0) hx hb (tb_at tk_X8_settles 4 rfl) (by decide) ?_
  refine lv_istore_n (pc := 9) (lv' := [(1, .int 0), (0, .ref z_o)]) hx hb (tb_at tk_X8_settles 5 rfl) rfl hl (by decide) rfl (fun ls hl => ?_)
  have w29 : ∀ (z_st_e29 : Nat → Int32) (H : Heap) (locs : List Loc) (ls : Array Slot), f_X8_settles_e29 z_weight z_wantsMany z_wants z_isKept z_saidPeople z_saidLaw z_saidWeight z_saidMany z_saidNights z_saidWants k N z_st_e29 = some res → PD (dC, dI) A (w_X8_settles cI cZ cQ cW z_o z_weight_a z_wants_a z_wantsMany_a z_st_a z_was_a z_images_a z_isKept_a z_told_a z_text_a z_saidWeight_a z_saidNights_a z_saidWants_a z_saidMany_a z_now_a z_gave_a z_at_a z_way_a z_bestWay_a z_made_a z_saidPeople z_known z_toldMany z_trace z_texted z_cursor z_start z_token z_number z_isWrong z_items z_saidPeople z_saidLaw z_ringed z_lumps z_st_e29 z_saidWeight z_weight z_saidMany z_wantsMany z_saidNights z_saidWants z_wants z_isKept) H → va_S A s.heap H locs → lv_has ls 2 [(0, .ref z_o)] → W p l e rm_X8_settles s m args below meth c H locs 0 0 Q (F0 m 29 ls []) := by
    intro z_st_e29 H locs ls h hW hS hl
    unfold f_X8_settles_e29 at h
    refine lv_iconst (pc := 29) (v := 0) hx hb (tb_at tk_X8_settles 16 rfl) (by decide) ?_
    refine lv_istore_n (pc := 30) (lv' := [(1, .int 0), (0, .ref z_o)]) hx hb (tb_at tk_X8_settles 17 rfl) rfl hl (by decide) rfl (fun ls hl => ?_)
    have w91 : ∀ (z_st_e91 : Nat → Int32) (z_weight_e91 : Nat → Int32) (z_wantsMany_e91 : Nat → Int32) (H : Heap) (locs : List Loc) (ls : Array Slot), f_X8_settles_e91 z_wants z_isKept z_saidPeople z_saidLaw z_saidWants k N z_st_e91 z_weight_e91 z_wantsMany_e91 = some res → PD (dC, dI) A (w_X8_settles cI cZ cQ cW z_o z_weight_a z_wants_a z_wantsMany_a z_st_a z_was_a z_images_a z_isKept_a z_told_a z_text_a z_saidWeight_a z_saidNights_a z_saidWants_a z_saidMany_a z_now_a z_gave_a z_at_a z_way_a z_bestWay_a z_made_a z_saidPeople z_known z_toldMany z_trace z_texted z_cursor z_start z_token z_number z_isWrong z_items z_saidPeople z_saidLaw z_ringed z_lumps z_st_e91 z_saidWeight z_weight_e91 z_saidMany z_wantsMany_e91 z_saidNights z_saidWants z_wants z_isKept) H → va_S A s.heap H locs → lv_has ls 2 [(0, .ref z_o)] → W p l e rm_X8_settles s m args below meth c H locs 0 0 Q (F0 m 91 ls []) := by
      intro z_st_e91 z_weight_e91 z_wantsMany_e91 H locs ls h hW hS hl
      unfold f_X8_settles_e91 at h
      refine lv_iconst (pc := 91) (v := 0) hx hb (tb_at tk_X8_settles 56 rfl) (by decide) ?_
      refine lv_istore_n (pc := 92) (lv' := [(1, .int 0), (0, .ref z_o)]) hx hb (tb_at tk_X8_settles 57 rfl) rfl hl (by decide) rfl (fun ls hl => ?_)
      have w117 : ∀ (z_wants_e117 : Nat → Int32) (H : Heap) (locs : List Loc) (ls : Array Slot), f_X8_settles_e117 z_isKept z_saidPeople z_saidLaw z_st_e91 z_weight_e91 z_wantsMany_e91 k z_wants_e117 = some res → PD (dC, dI) A (w_X8_settles cI cZ cQ cW z_o z_weight_a z_wants_a z_wantsMany_a z_st_a z_was_a z_images_a z_isKept_a z_told_a z_text_a z_saidWeight_a z_saidNights_a z_saidWants_a z_saidMany_a z_now_a z_gave_a z_at_a z_way_a z_bestWay_a z_made_a z_saidPeople z_known z_toldMany z_trace z_texted z_cursor z_start z_token z_number z_isWrong z_items z_saidPeople z_saidLaw z_ringed z_lumps z_st_e91 z_saidWeight z_weight_e91 z_saidMany z_wantsMany_e91 z_saidNights z_saidWants z_wants_e117 z_isKept) H → va_S A s.heap H locs → lv_has ls 2 [(0, .ref z_o)] → W p l e rm_X8_settles s m args below meth c H locs 0 0 Q (F0 m 117 ls []) := by
        intro z_wants_e117 H locs ls h hW hS hl
        unfold f_X8_settles_e117 at h
        refine lv_aload_n (pc := 117) hx hb (tb_at tk_X8_settles 71 rfl) rfl (lv_at hl 0 rfl) ?_
        refine k_get (pc := 118) (v := .ref z_st_a) (T := TX8) B inG8 hW 0 rfl rfl 4 (by decide) q_f_X8_19 rfl rfl (tb_at tk_X8_settles 72 rfl) ?_
        refine lv_bipush (pc := 121) (v := 24) hx hb (tb_at tk_X8_settles 73 rfl) (by decide) ?_
        refine lv_aload_n (pc := 123) hx hb (tb_at tk_X8_settles 74 rfl) rfl (lv_at hl 0 rfl) ?_
        refine k_get (pc := 124) (v := .int z_saidLaw) (T := TX8) B inG8 hW 0 rfl rfl 25 (by decide) q_f_X8_117 rfl rfl (tb_at tk_X8_settles 75 rfl) ?_
        have w138 : ∀ (s2_j138 : Int32) (H : Heap) (locs : List Loc) (ls : Array Slot), f_X8_settles_j138 z_isKept z_saidPeople z_st_e91 z_weight_e91 z_wantsMany_e91 z_wants_e117 k s2_j138 = some res → PD (dC, dI) A (w_X8_settles cI cZ cQ cW z_o z_weight_a z_wants_a z_wantsMany_a z_st_a z_was_a z_images_a z_isKept_a z_told_a z_text_a z_saidWeight_a z_saidNights_a z_saidWants_a z_saidMany_a z_now_a z_gave_a z_at_a z_way_a z_bestWay_a z_made_a z_saidPeople z_known z_toldMany z_trace z_texted z_cursor z_start z_token z_number z_isWrong z_items z_saidPeople z_saidLaw z_ringed z_lumps z_st_e91 z_saidWeight z_weight_e91 z_saidMany z_wantsMany_e91 z_saidNights z_saidWants z_wants_e117 z_isKept) H → va_S A s.heap H locs → lv_has ls 2 [(0, .ref z_o)] → W p l e rm_X8_settles s m args below meth c H locs 0 0 Q (F0 m 138 ls [.int s2_j138, .int 24, .ref z_st_a]) := by
          intro s2_j138 H locs ls h hW hS hl
          unfold f_X8_settles_j138 at h
          have ii := ivi_in (ck_l h)
          have h := ck_r h
          refine k_iast (pc := 138) B hW hS 1 0 rfl rfl ii (tb_at tk_X8_settles 81 rfl) (w_X8_settles cI cZ cQ cW z_o z_weight_a z_wants_a z_wantsMany_a z_st_a z_was_a z_images_a z_isKept_a z_told_a z_text_a z_saidWeight_a z_saidNights_a z_saidWants_a z_saidMany_a z_now_a z_gave_a z_at_a z_way_a z_bestWay_a z_made_a z_saidPeople z_known z_toldMany z_trace z_texted z_cursor z_start z_token z_number z_isWrong z_items z_saidPeople z_saidLaw z_ringed z_lumps (upd z_st_e91 ((24 : Int32)).toNatClampNeg s2_j138) z_saidWeight z_weight_e91 z_saidMany z_wantsMany_e91 z_saidNights z_saidWants z_wants_e117 z_isKept) rfl (fun H locs hW hS => ?_)
          refine lv_aload_n (pc := 139) hx hb (tb_at tk_X8_settles 82 rfl) rfl (lv_at hl 0 rfl) ?_
          refine lv_iconst (pc := 140) (v := 0) hx hb (tb_at tk_X8_settles 83 rfl) (by decide) ?_
          refine k_put (pc := 141) (T := TX8) B inG8 tyX8 tyX8_ok nmX8 hW hS 0 rfl rfl 6 (by decide) q_f_X8_135 rfl rfl rfl rfl (Nat.le_of_ble_eq_true rfl) (tb_at tk_X8_settles 84 rfl) (w_X8_settles cI cZ cQ cW z_o z_weight_a z_wants_a z_wantsMany_a z_st_a z_was_a z_images_a z_isKept_a z_told_a z_text_a z_saidWeight_a z_saidNights_a z_saidWants_a z_saidMany_a z_now_a z_gave_a z_at_a z_way_a z_bestWay_a z_made_a z_saidPeople 0 z_toldMany z_trace z_texted z_cursor z_start z_token z_number z_isWrong z_items z_saidPeople z_saidLaw z_ringed z_lumps (upd z_st_e91 ((24 : Int32)).toNatClampNeg s2_j138) z_saidWeight z_weight_e91 z_saidMany z_wantsMany_e91 z_saidNights z_saidWants z_wants_e117 z_isKept) rfl (fun H locs hW hS => ?_)
          refine lv_aload_n (pc := 144) hx hb (tb_at tk_X8_settles 85 rfl) rfl (lv_at hl 0 rfl) ?_
          refine lv_iconst (pc := 145) (v := 0) hx hb (tb_at tk_X8_settles 86 rfl) (by decide) ?_
          refine k_put (pc := 146) (T := TX8) B inG8 tyX8 tyX8_ok nmX8 hW hS 0 rfl rfl 9 (by decide) q_f_X8_138 rfl rfl rfl rfl (Nat.le_of_ble_eq_true rfl) (tb_at tk_X8_settles 87 rfl) (w_X8_settles cI cZ cQ cW z_o z_weight_a z_wants_a z_wantsMany_a z_st_a z_was_a z_images_a z_isKept_a z_told_a z_text_a z_saidWeight_a z_saidNights_a z_saidWants_a z_saidMany_a z_now_a z_gave_a z_at_a z_way_a z_bestWay_a z_made_a z_saidPeople 0 0 z_trace z_texted z_cursor z_start z_token z_number z_isWrong z_items z_saidPeople z_saidLaw z_ringed z_lumps (upd z_st_e91 ((24 : Int32)).toNatClampNeg s2_j138) z_saidWeight z_weight_e91 z_saidMany z_wantsMany_e91 z_saidNights z_saidWants z_wants_e117 z_isKept) rfl (fun H locs hW hS => ?_)
          refine lv_aload_n (pc := 149) hx hb (tb_at tk_X8_settles 88 rfl) rfl (lv_at hl 0 rfl) ?_
          refine k_get (pc := 150) (v := .ref z_isKept_a) (T := TX8) B inG8 hW 0 rfl rfl 8 (by decide) q_f_X8_28 rfl rfl (tb_at tk_X8_settles 89 rfl) ?_
          refine lv_iconst (pc := 153) (v := 0) hx hb (tb_at tk_X8_settles 90 rfl) (by decide) ?_
          refine lv_iconst (pc := 154) (v := 0) hx hb (tb_at tk_X8_settles 91 rfl) (by decide) ?_
          have ii := ivi_in (ck_l h)
          have h := ck_r h
          refine k_zast (pc := 155) B hW hS 9 1 rfl rfl ii pz0 (tb_at tk_X8_settles 92 rfl) (w_X8_settles cI cZ cQ cW z_o z_weight_a z_wants_a z_wantsMany_a z_st_a z_was_a z_images_a z_isKept_a z_told_a z_text_a z_saidWeight_a z_saidNights_a z_saidWants_a z_saidMany_a z_now_a z_gave_a z_at_a z_way_a z_bestWay_a z_made_a z_saidPeople 0 0 z_trace z_texted z_cursor z_start z_token z_number z_isWrong z_items z_saidPeople z_saidLaw z_ringed z_lumps (upd z_st_e91 ((24 : Int32)).toNatClampNeg s2_j138) z_saidWeight z_weight_e91 z_saidMany z_wantsMany_e91 z_saidNights z_saidWants z_wants_e117 (upd z_isKept ((0 : Int32)).toNatClampNeg 0)) rfl (fun H locs hW hS => ?_)
          refine lv_aload_n (pc := 156) hx hb (tb_at tk_X8_settles 93 rfl) rfl (lv_at hl 0 rfl) ?_
          refine k_get (pc := 157) (v := .ref z_isKept_a) (T := TX8) B inG8 hW 0 rfl rfl 8 (by decide) q_f_X8_28 rfl rfl (tb_at tk_X8_settles 94 rfl) ?_
          refine lv_iconst (pc := 160) (v := 1) hx hb (tb_at tk_X8_settles 95 rfl) (by decide) ?_
          refine lv_iconst (pc := 161) (v := 0) hx hb (tb_at tk_X8_settles 96 rfl) (by decide) ?_
          have ii := ivi_in (ck_l h)
          have h := ck_r h
          refine k_zast (pc := 162) B hW hS 9 1 rfl rfl ii pz0 (tb_at tk_X8_settles 97 rfl) (w_X8_settles cI cZ cQ cW z_o z_weight_a z_wants_a z_wantsMany_a z_st_a z_was_a z_images_a z_isKept_a z_told_a z_text_a z_saidWeight_a z_saidNights_a z_saidWants_a z_saidMany_a z_now_a z_gave_a z_at_a z_way_a z_bestWay_a z_made_a z_saidPeople 0 0 z_trace z_texted z_cursor z_start z_token z_number z_isWrong z_items z_saidPeople z_saidLaw z_ringed z_lumps (upd z_st_e91 ((24 : Int32)).toNatClampNeg s2_j138) z_saidWeight z_weight_e91 z_saidMany z_wantsMany_e91 z_saidNights z_saidWants z_wants_e117 (upd (upd z_isKept ((0 : Int32)).toNatClampNeg 0) ((1 : Int32)).toNatClampNeg 0)) rfl (fun H locs hW hS => ?_)
          refine lv_aload_n (pc := 163) hx hb (tb_at tk_X8_settles 98 rfl) rfl (lv_at hl 0 rfl) ?_
          refine lv_iconst (pc := 164) (v := 0) hx hb (tb_at tk_X8_settles 99 rfl) (by decide) ?_
          refine k_put (pc := 165) (T := TX8) B inG8 tyX8 tyX8_ok nmX8 hW hS 0 rfl rfl 13 (by decide) q_f_X8_76 rfl rfl rfl rfl (Nat.le_of_ble_eq_true rfl) (tb_at tk_X8_settles 100 rfl) (w_X8_settles cI cZ cQ cW z_o z_weight_a z_wants_a z_wantsMany_a z_st_a z_was_a z_images_a z_isKept_a z_told_a z_text_a z_saidWeight_a z_saidNights_a z_saidWants_a z_saidMany_a z_now_a z_gave_a z_at_a z_way_a z_bestWay_a z_made_a z_saidPeople 0 0 z_trace 0 z_cursor z_start z_token z_number z_isWrong z_items z_saidPeople z_saidLaw z_ringed z_lumps (upd z_st_e91 ((24 : Int32)).toNatClampNeg s2_j138) z_saidWeight z_weight_e91 z_saidMany z_wantsMany_e91 z_saidNights z_saidWants z_wants_e117 (upd (upd z_isKept ((0 : Int32)).toNatClampNeg 0) ((1 : Int32)).toNatClampNeg 0)) rfl (fun H locs hW hS => ?_)
          exact hQ (z_saidPeople, 0, 0, 0, upd z_st_e91 ((24 : Int32)).toNatClampNeg s2_j138, z_weight_e91, z_wantsMany_e91, z_wants_e117, upd (upd z_isKept ((0 : Int32)).toNatClampNeg 0) ((1 : Int32)).toNatClampNeg 0) _ _ _ 168 h hW hS (tb_at tk_X8_settles 101 rfl)
        refine lv_if_ge (pc := 127) (tgt := 134) hx hb (tb_at tk_X8_settles 76 rfl) (by decide) (fun cc => ?_) (fun cc => ?_)
        · have h := it_t cc h
          refine lv_aload_n (pc := 134) hx hb (tb_at tk_X8_settles 79 rfl) rfl (lv_at hl 0 rfl) ?_
          refine k_get (pc := 135) (v := .int z_saidLaw) (T := TX8) B inG8 hW 0 rfl rfl 25 (by decide) q_f_X8_117 rfl rfl (tb_at tk_X8_settles 80 rfl) ?_
          exact w138 z_saidLaw _ _ _ h hW hS (lv_sub hl [0] rfl)
        · have h := it_f cc h
          refine lv_iconst (pc := 130) (v := 0) hx hb (tb_at tk_X8_settles 77 rfl) (by decide) ?_
          refine lv_goto (pc := 131) (tgt := 138) hx hb (tb_at tk_X8_settles 78 rfl) (by decide) ?_
          exact w138 0 _ _ _ h hW hS (lv_sub hl [0] rfl)
      have w93 : ∀ (n : Nat), ∀ (y1_l93 : Int32) (z_wants_l93 : Nat → Int32) (H : Heap) (locs : List Loc) (ls : Array Slot), f_X8_settles_l93 z_saidWants (fun z_wants_e117 => f_X8_settles_e117 z_isKept z_saidPeople z_saidLaw z_st_e91 z_weight_e91 z_wantsMany_e91 k z_wants_e117) n y1_l93 z_wants_l93 = some res → PD (dC, dI) A (w_X8_settles cI cZ cQ cW z_o z_weight_a z_wants_a z_wantsMany_a z_st_a z_was_a z_images_a z_isKept_a z_told_a z_text_a z_saidWeight_a z_saidNights_a z_saidWants_a z_saidMany_a z_now_a z_gave_a z_at_a z_way_a z_bestWay_a z_made_a z_saidPeople z_known z_toldMany z_trace z_texted z_cursor z_start z_token z_number z_isWrong z_items z_saidPeople z_saidLaw z_ringed z_lumps z_st_e91 z_saidWeight z_weight_e91 z_saidMany z_wantsMany_e91 z_saidNights z_saidWants z_wants_l93 z_isKept) H → va_S A s.heap H locs → lv_has ls 2 [(0, .ref z_o), (1, .int y1_l93)] → W p l e rm_X8_settles s m args below meth c H locs 0 0 Q (F0 m 93 ls []) := by
        intro n
        induction n with
        | zero => intro y1_l93 z_wants_l93 H locs ls h; exact no_n h
        | succ n93 ih93 =>
          intro y1_l93 z_wants_l93 H locs ls h hW hS hl
          rw [f_X8_settles_l93] at h
          refine lv_iload_n (pc := 93) hx hb (tb_at tk_X8_settles 58 rfl) rfl (lv_at hl 1 rfl) ?_
          refine lv_bipush (pc := 94) (v := 24) hx hb (tb_at tk_X8_settles 59 rfl) (by decide) ?_
          refine lv_icmp_ge (pc := 96) (tgt := 117) hx hb (tb_at tk_X8_settles 60 rfl) (by decide) (fun cc => ?_) (fun cc => ?_)
          · have h := it_t cc h
            exact w117 z_wants_l93 _ _ _ h hW hS (lv_sub hl [0] rfl)
          · have h := it_f cc h
            refine lv_aload_n (pc := 99) hx hb (tb_at tk_X8_settles 61 rfl) rfl (lv_at hl 0 rfl) ?_
            refine k_get (pc := 100) (v := .ref z_wants_a) (T := TX8) B inG8 hW 0 rfl rfl 2 (by decide) q_f_X8_13 rfl rfl (tb_at tk_X8_settles 62 rfl) ?_
            refine lv_iload_n (pc := 103) hx hb (tb_at tk_X8_settles 63 rfl) rfl (lv_at hl 1 rfl) ?_
            refine lv_aload_n (pc := 104) hx hb (tb_at tk_X8_settles 64 rfl) rfl (lv_at hl 0 rfl) ?_
            refine k_get (pc := 105) (v := .ref z_saidWants_a) (T := TX8) B inG8 hW 0 rfl rfl 23 (by decide) q_f_X8_44 rfl rfl (tb_at tk_X8_settles 65 rfl) ?_
            refine lv_iload_n (pc := 108) hx hb (tb_at tk_X8_settles 66 rfl) rfl (lv_at hl 1 rfl) ?_
            have ii := ivi_in (ck_l h)
            have h := ck_r h
            refine k_iald (pc := 109) B hW 7 0 rfl rfl ii (tb_at tk_X8_settles 67 rfl) ?_
            have ii := ivi_in (ck_l h)
            have h := ck_r h
            refine k_iast (pc := 110) B hW hS 8 0 rfl rfl ii (tb_at tk_X8_settles 68 rfl) (w_X8_settles cI cZ cQ cW z_o z_weight_a z_wants_a z_wantsMany_a z_st_a z_was_a z_images_a z_isKept_a z_told_a z_text_a z_saidWeight_a z_saidNights_a z_saidWants_a z_saidMany_a z_now_a z_gave_a z_at_a z_way_a z_bestWay_a z_made_a z_saidPeople z_known z_toldMany z_trace z_texted z_cursor z_start z_token z_number z_isWrong z_items z_saidPeople z_saidLaw z_ringed z_lumps z_st_e91 z_saidWeight z_weight_e91 z_saidMany z_wantsMany_e91 z_saidNights z_saidWants (upd z_wants_l93 (y1_l93).toNatClampNeg (z_saidWants (y1_l93).toNatClampNeg)) z_isKept) rfl (fun H locs hW hS => ?_)
            refine lv_iinc (pc := 111) (v := y1_l93 + 1) (lv' := [(1, .int (y1_l93 + 1)), (0, .ref z_o)]) hx hb (tb_at tk_X8_settles 69 rfl) hl (k := 1) rfl rfl (by decide) rfl (fun ls hl => ?_)
            refine lv_goto (pc := 114) (tgt := 93) hx hb (tb_at tk_X8_settles 70 rfl) (by decide) ?_
            exact ih93 (y1_l93 + 1) (upd z_wants_l93 (y1_l93).toNatClampNeg (z_saidWants (y1_l93).toNatClampNeg)) _ _ _ h hW hS (lv_sub hl [1, 0] rfl)
      exact w93 N 0 z_wants _ _ _ h hW hS (lv_sub hl [1, 0] rfl)
    have w31 : ∀ (n : Nat), ∀ (y1_l31 : Int32) (z_st_l31 : Nat → Int32) (z_weight_l31 : Nat → Int32) (z_wantsMany_l31 : Nat → Int32) (H : Heap) (locs : List Loc) (ls : Array Slot), f_X8_settles_l31 z_saidWeight z_saidMany z_saidNights (fun z_st_e91 z_weight_e91 z_wantsMany_e91 => f_X8_settles_e91 z_wants z_isKept z_saidPeople z_saidLaw z_saidWants k N z_st_e91 z_weight_e91 z_wantsMany_e91) n y1_l31 z_st_l31 z_weight_l31 z_wantsMany_l31 = some res → PD (dC, dI) A (w_X8_settles cI cZ cQ cW z_o z_weight_a z_wants_a z_wantsMany_a z_st_a z_was_a z_images_a z_isKept_a z_told_a z_text_a z_saidWeight_a z_saidNights_a z_saidWants_a z_saidMany_a z_now_a z_gave_a z_at_a z_way_a z_bestWay_a z_made_a z_saidPeople z_known z_toldMany z_trace z_texted z_cursor z_start z_token z_number z_isWrong z_items z_saidPeople z_saidLaw z_ringed z_lumps z_st_l31 z_saidWeight z_weight_l31 z_saidMany z_wantsMany_l31 z_saidNights z_saidWants z_wants z_isKept) H → va_S A s.heap H locs → lv_has ls 2 [(0, .ref z_o), (1, .int y1_l31)] → W p l e rm_X8_settles s m args below meth c H locs 0 0 Q (F0 m 31 ls []) := by
      intro n
      induction n with
      | zero => intro y1_l31 z_st_l31 z_weight_l31 z_wantsMany_l31 H locs ls h; exact no_n h
      | succ n31 ih31 =>
        intro y1_l31 z_st_l31 z_weight_l31 z_wantsMany_l31 H locs ls h hW hS hl
        rw [f_X8_settles_l31] at h
        refine lv_iload_n (pc := 31) hx hb (tb_at tk_X8_settles 18 rfl) rfl (lv_at hl 1 rfl) ?_
        refine lv_bipush (pc := 32) (v := 6) hx hb (tb_at tk_X8_settles 19 rfl) (by decide) ?_
        refine lv_icmp_ge (pc := 34) (tgt := 91) hx hb (tb_at tk_X8_settles 20 rfl) (by decide) (fun cc => ?_) (fun cc => ?_)
        · have h := it_t cc h
          exact w91 z_st_l31 z_weight_l31 z_wantsMany_l31 _ _ _ h hW hS (lv_sub hl [0] rfl)
        · have h := it_f cc h
          refine lv_aload_n (pc := 37) hx hb (tb_at tk_X8_settles 21 rfl) rfl (lv_at hl 0 rfl) ?_
          refine k_get (pc := 38) (v := .ref z_weight_a) (T := TX8) B inG8 hW 0 rfl rfl 1 (by decide) q_f_X8_7 rfl rfl (tb_at tk_X8_settles 22 rfl) ?_
          refine lv_iload_n (pc := 41) hx hb (tb_at tk_X8_settles 23 rfl) rfl (lv_at hl 1 rfl) ?_
          refine lv_aload_n (pc := 42) hx hb (tb_at tk_X8_settles 24 rfl) rfl (lv_at hl 0 rfl) ?_
          refine k_get (pc := 43) (v := .ref z_saidWeight_a) (T := TX8) B inG8 hW 0 rfl rfl 21 (by decide) q_f_X8_38 rfl rfl (tb_at tk_X8_settles 25 rfl) ?_
          refine lv_iload_n (pc := 46) hx hb (tb_at tk_X8_settles 26 rfl) rfl (lv_at hl 1 rfl) ?_
          have ii := ivi_in (ck_l h)
          have h := ck_r h
          refine k_iald (pc := 47) B hW 2 0 rfl rfl ii (tb_at tk_X8_settles 27 rfl) ?_
          have ii := ivi_in (ck_l h)
          have h := ck_r h
          refine k_iast (pc := 48) B hW hS 3 0 rfl rfl ii (tb_at tk_X8_settles 28 rfl) (w_X8_settles cI cZ cQ cW z_o z_weight_a z_wants_a z_wantsMany_a z_st_a z_was_a z_images_a z_isKept_a z_told_a z_text_a z_saidWeight_a z_saidNights_a z_saidWants_a z_saidMany_a z_now_a z_gave_a z_at_a z_way_a z_bestWay_a z_made_a z_saidPeople z_known z_toldMany z_trace z_texted z_cursor z_start z_token z_number z_isWrong z_items z_saidPeople z_saidLaw z_ringed z_lumps z_st_l31 z_saidWeight (upd z_weight_l31 (y1_l31).toNatClampNeg (z_saidWeight (y1_l31).toNatClampNeg)) z_saidMany z_wantsMany_l31 z_saidNights z_saidWants z_wants z_isKept) rfl (fun H locs hW hS => ?_)
          refine lv_aload_n (pc := 49) hx hb (tb_at tk_X8_settles 29 rfl) rfl (lv_at hl 0 rfl) ?_
          refine k_get (pc := 50) (v := .ref z_wantsMany_a) (T := TX8) B inG8 hW 0 rfl rfl 3 (by decide) q_f_X8_16 rfl rfl (tb_at tk_X8_settles 30 rfl) ?_
          refine lv_iload_n (pc := 53) hx hb (tb_at tk_X8_settles 31 rfl) rfl (lv_at hl 1 rfl) ?_
          refine lv_aload_n (pc := 54) hx hb (tb_at tk_X8_settles 32 rfl) rfl (lv_at hl 0 rfl) ?_
          refine k_get (pc := 55) (v := .ref z_saidMany_a) (T := TX8) B inG8 hW 0 rfl rfl 24 (by decide) q_f_X8_47 rfl rfl (tb_at tk_X8_settles 33 rfl) ?_
          refine lv_iload_n (pc := 58) hx hb (tb_at tk_X8_settles 34 rfl) rfl (lv_at hl 1 rfl) ?_
          have ii := ivi_in (ck_l h)
          have h := ck_r h
          refine k_iald (pc := 59) B hW 4 0 rfl rfl ii (tb_at tk_X8_settles 35 rfl) ?_
          have ii := ivi_in (ck_l h)
          have h := ck_r h
          refine k_iast (pc := 60) B hW hS 5 0 rfl rfl ii (tb_at tk_X8_settles 36 rfl) (w_X8_settles cI cZ cQ cW z_o z_weight_a z_wants_a z_wantsMany_a z_st_a z_was_a z_images_a z_isKept_a z_told_a z_text_a z_saidWeight_a z_saidNights_a z_saidWants_a z_saidMany_a z_now_a z_gave_a z_at_a z_way_a z_bestWay_a z_made_a z_saidPeople z_known z_toldMany z_trace z_texted z_cursor z_start z_token z_number z_isWrong z_items z_saidPeople z_saidLaw z_ringed z_lumps z_st_l31 z_saidWeight (upd z_weight_l31 (y1_l31).toNatClampNeg (z_saidWeight (y1_l31).toNatClampNeg)) z_saidMany (upd z_wantsMany_l31 (y1_l31).toNatClampNeg (z_saidMany (y1_l31).toNatClampNeg)) z_saidNights z_saidWants z_wants z_isKept) rfl (fun H locs hW hS => ?_)
          refine lv_aload_n (pc := 61) hx hb (tb_at tk_X8_settles 37 rfl) rfl (lv_at hl 0 rfl) ?_
          refine k_get (pc := 62) (v := .ref z_st_a) (T := TX8) B inG8 hW 0 rfl rfl 4 (by decide) q_f_X8_19 rfl rfl (tb_at tk_X8_settles 38 rfl) ?_
          refine lv_iconst (pc := 65) (v := 0) hx hb (tb_at tk_X8_settles 39 rfl) (by decide) ?_
          refine lv_iload_n (pc := 66) hx hb (tb_at tk_X8_settles 40 rfl) rfl (lv_at hl 1 rfl) ?_
          refine lv_iadd (pc := 67) hx hb (tb_at tk_X8_settles 41 rfl) ?_
          refine lv_iload_n (pc := 68) hx hb (tb_at tk_X8_settles 42 rfl) rfl (lv_at hl 1 rfl) ?_
          have ii := ivi_in (ck_l h)
          have h := ck_r h
          refine k_iast (pc := 69) B hW hS 1 0 rfl rfl ii (tb_at tk_X8_settles 43 rfl) (w_X8_settles cI cZ cQ cW z_o z_weight_a z_wants_a z_wantsMany_a z_st_a z_was_a z_images_a z_isKept_a z_told_a z_text_a z_saidWeight_a z_saidNights_a z_saidWants_a z_saidMany_a z_now_a z_gave_a z_at_a z_way_a z_bestWay_a z_made_a z_saidPeople z_known z_toldMany z_trace z_texted z_cursor z_start z_token z_number z_isWrong z_items z_saidPeople z_saidLaw z_ringed z_lumps (upd z_st_l31 ((0 : Int32) + y1_l31).toNatClampNeg y1_l31) z_saidWeight (upd z_weight_l31 (y1_l31).toNatClampNeg (z_saidWeight (y1_l31).toNatClampNeg)) z_saidMany (upd z_wantsMany_l31 (y1_l31).toNatClampNeg (z_saidMany (y1_l31).toNatClampNeg)) z_saidNights z_saidWants z_wants z_isKept) rfl (fun H locs hW hS => ?_)
          refine lv_aload_n (pc := 70) hx hb (tb_at tk_X8_settles 44 rfl) rfl (lv_at hl 0 rfl) ?_
          refine k_get (pc := 71) (v := .ref z_st_a) (T := TX8) B inG8 hW 0 rfl rfl 4 (by decide) q_f_X8_19 rfl rfl (tb_at tk_X8_settles 45 rfl) ?_
          refine lv_bipush (pc := 74) (v := 6) hx hb (tb_at tk_X8_settles 46 rfl) (by decide) ?_
          refine lv_iload_n (pc := 76) hx hb (tb_at tk_X8_settles 47 rfl) rfl (lv_at hl 1 rfl) ?_
          refine lv_iadd (pc := 77) hx hb (tb_at tk_X8_settles 48 rfl) ?_
          refine lv_aload_n (pc := 78) hx hb (tb_at tk_X8_settles 49 rfl) rfl (lv_at hl 0 rfl) ?_
          refine k_get (pc := 79) (v := .ref z_saidNights_a) (T := TX8) B inG8 hW 0 rfl rfl 22 (by decide) q_f_X8_41 rfl rfl (tb_at tk_X8_settles 50 rfl) ?_
          refine lv_iload_n (pc := 82) hx hb (tb_at tk_X8_settles 51 rfl) rfl (lv_at hl 1 rfl) ?_
          have ii := ivi_in (ck_l h)
          have h := ck_r h
          refine k_iald (pc := 83) B hW 6 0 rfl rfl ii (tb_at tk_X8_settles 52 rfl) ?_
          have ii := ivi_in (ck_l h)
          have h := ck_r h
          refine k_iast (pc := 84) B hW hS 1 0 rfl rfl ii (tb_at tk_X8_settles 53 rfl) (w_X8_settles cI cZ cQ cW z_o z_weight_a z_wants_a z_wantsMany_a z_st_a z_was_a z_images_a z_isKept_a z_told_a z_text_a z_saidWeight_a z_saidNights_a z_saidWants_a z_saidMany_a z_now_a z_gave_a z_at_a z_way_a z_bestWay_a z_made_a z_saidPeople z_known z_toldMany z_trace z_texted z_cursor z_start z_token z_number z_isWrong z_items z_saidPeople z_saidLaw z_ringed z_lumps (upd (upd z_st_l31 ((0 : Int32) + y1_l31).toNatClampNeg y1_l31) ((6 : Int32) + y1_l31).toNatClampNeg (z_saidNights (y1_l31).toNatClampNeg)) z_saidWeight (upd z_weight_l31 (y1_l31).toNatClampNeg (z_saidWeight (y1_l31).toNatClampNeg)) z_saidMany (upd z_wantsMany_l31 (y1_l31).toNatClampNeg (z_saidMany (y1_l31).toNatClampNeg)) z_saidNights z_saidWants z_wants z_isKept) rfl (fun H locs hW hS => ?_)
          refine lv_iinc (pc := 85) (v := y1_l31 + 1) (lv' := [(1, .int (y1_l31 + 1)), (0, .ref z_o)]) hx hb (tb_at tk_X8_settles 54 rfl) hl (k := 1) rfl rfl (by decide) rfl (fun ls hl => ?_)
          refine lv_goto (pc := 88) (tgt := 31) hx hb (tb_at tk_X8_settles 55 rfl) (by decide) ?_
          exact ih31 (y1_l31 + 1) (upd (upd z_st_l31 ((0 : Int32) + y1_l31).toNatClampNeg y1_l31) ((6 : Int32) + y1_l31).toNatClampNeg (z_saidNights (y1_l31).toNatClampNeg)) (upd z_weight_l31 (y1_l31).toNatClampNeg (z_saidWeight (y1_l31).toNatClampNeg)) (upd z_wantsMany_l31 (y1_l31).toNatClampNeg (z_saidMany (y1_l31).toNatClampNeg)) _ _ _ h hW hS (lv_sub hl [1, 0] rfl)
    exact w31 N 0 z_st_e29 z_weight z_wantsMany _ _ _ h hW hS (lv_sub hl [1, 0] rfl)
  have w10 : ∀ (n : Nat), ∀ (y1_l10 : Int32) (z_st_l10 : Nat → Int32) (H : Heap) (locs : List Loc) (ls : Array Slot), f_X8_settles_l10 (fun z_st_e29 => f_X8_settles_e29 z_weight z_wantsMany z_wants z_isKept z_saidPeople z_saidLaw z_saidWeight z_saidMany z_saidNights z_saidWants k N z_st_e29) n y1_l10 z_st_l10 = some res → PD (dC, dI) A (w_X8_settles cI cZ cQ cW z_o z_weight_a z_wants_a z_wantsMany_a z_st_a z_was_a z_images_a z_isKept_a z_told_a z_text_a z_saidWeight_a z_saidNights_a z_saidWants_a z_saidMany_a z_now_a z_gave_a z_at_a z_way_a z_bestWay_a z_made_a z_saidPeople z_known z_toldMany z_trace z_texted z_cursor z_start z_token z_number z_isWrong z_items z_saidPeople z_saidLaw z_ringed z_lumps z_st_l10 z_saidWeight z_weight z_saidMany z_wantsMany z_saidNights z_saidWants z_wants z_isKept) H → va_S A s.heap H locs → lv_has ls 2 [(0, .ref z_o), (1, .int y1_l10)] → W p l e rm_X8_settles s m args below meth c H locs 0 0 Q (F0 m 10 ls []) := by
    intro n
    induction n with
    | zero => intro y1_l10 z_st_l10 H locs ls h; exact no_n h
    | succ n10 ih10 =>
      intro y1_l10 z_st_l10 H locs ls h hW hS hl
      rw [f_X8_settles_l10] at h
      refine lv_iload_n (pc := 10) hx hb (tb_at tk_X8_settles 6 rfl) rfl (lv_at hl 1 rfl) ?_
      refine lv_bipush (pc := 11) (v := 25) hx hb (tb_at tk_X8_settles 7 rfl) (by decide) ?_
      refine lv_icmp_ge (pc := 13) (tgt := 29) hx hb (tb_at tk_X8_settles 8 rfl) (by decide) (fun cc => ?_) (fun cc => ?_)
      · have h := it_t cc h
        exact w29 z_st_l10 _ _ _ h hW hS (lv_sub hl [0] rfl)
      · have h := it_f cc h
        refine lv_aload_n (pc := 16) hx hb (tb_at tk_X8_settles 9 rfl) rfl (lv_at hl 0 rfl) ?_
        refine k_get (pc := 17) (v := .ref z_st_a) (T := TX8) B inG8 hW 0 rfl rfl 4 (by decide) q_f_X8_19 rfl rfl (tb_at tk_X8_settles 10 rfl) ?_
        refine lv_iload_n (pc := 20) hx hb (tb_at tk_X8_settles 11 rfl) rfl (lv_at hl 1 rfl) ?_
        refine lv_iconst (pc := 21) (v := 0) hx hb (tb_at tk_X8_settles 12 rfl) (by decide) ?_
        have ii := ivi_in (ck_l h)
        have h := ck_r h
        refine k_iast (pc := 22) B hW hS 1 0 rfl rfl ii (tb_at tk_X8_settles 13 rfl) (w_X8_settles cI cZ cQ cW z_o z_weight_a z_wants_a z_wantsMany_a z_st_a z_was_a z_images_a z_isKept_a z_told_a z_text_a z_saidWeight_a z_saidNights_a z_saidWants_a z_saidMany_a z_now_a z_gave_a z_at_a z_way_a z_bestWay_a z_made_a z_saidPeople z_known z_toldMany z_trace z_texted z_cursor z_start z_token z_number z_isWrong z_items z_saidPeople z_saidLaw z_ringed z_lumps (upd z_st_l10 (y1_l10).toNatClampNeg 0) z_saidWeight z_weight z_saidMany z_wantsMany z_saidNights z_saidWants z_wants z_isKept) rfl (fun H locs hW hS => ?_)
        refine lv_iinc (pc := 23) (v := y1_l10 + 1) (lv' := [(1, .int (y1_l10 + 1)), (0, .ref z_o)]) hx hb (tb_at tk_X8_settles 14 rfl) hl (k := 1) rfl rfl (by decide) rfl (fun ls hl => ?_)
        refine lv_goto (pc := 26) (tgt := 10) hx hb (tb_at tk_X8_settles 15 rfl) (by decide) ?_
        exact ih10 (y1_l10 + 1) (upd z_st_l10 (y1_l10).toNatClampNeg 0) _ _ _ h hW hS (lv_sub hl [1, 0] rfl)
  exact w10 N 0 z_st _ _ _ h hW hS (lv_sub hl [1, 0] rfl)
def f_X8_house_e60 {ρ : Type} (z_people : Int32) (z_known : Int32) (z_toldMany : Int32) (z_texted : Int32) (z_st : Nat → Int32) (z_weight : Nat → Int32) (z_wantsMany : Nat → Int32) (z_wants : Nat → Int32) (z_isKept : Nat → Int32) (k : Int32 → Int32 → Int32 → Int32 → Int32 → Int32 → Int32 → Int32 → Int32 → Int32 → Int32 → Int32 → Int32 → (Nat → Int32) → (Nat → Int32) → (Nat → Int32) → (Nat → Int32) → (Nat → Int32) → (Nat → Int32) → (Nat → Int32) → (Nat → Int32) → (Nat → Int32) → Option ρ) (N : Nat) (z_cursor_e60 : Int32) (z_start_e60 : Int32) (z_token_e60 : Int32) (z_number_e60 : Int32) (z_isWrong_e60 : Int32) (z_items_e60 : Int32) (z_saidPeople_e60 : Int32) (z_saidLaw_e60 : Int32) (z_saidWeight_e60 : Nat → Int32) (z_saidNights_e60 : Nat → Int32) (z_saidMany_e60 : Nat → Int32) (z_saidWants_e60 : Nat → Int32) : Option ρ := if z_isWrong_e60 = 0 then (f_X8_settles N z_saidPeople_e60 z_saidLaw_e60 z_st z_saidWeight_e60 z_weight z_saidMany_e60 z_wantsMany z_saidNights_e60 z_saidWants_e60 z_wants z_isKept (fun z_people_76 z_known_76 z_toldMany_76 z_texted_76 z_st_76 z_weight_76 z_wantsMany_76 z_wants_76 z_isKept_76 => k z_items_e60 z_people_76 z_known_76 z_toldMany_76 z_texted_76 z_cursor_e60 z_start_e60 z_token_e60 z_number_e60 z_isWrong_e60 z_items_e60 z_saidPeople_e60 z_saidLaw_e60 z_saidWeight_e60 z_saidNights_e60 z_saidMany_e60 z_saidWants_e60 z_st_76 z_weight_76 z_wantsMany_76 z_wants_76 z_isKept_76)) else (k ((-10 : Int32) - z_start_e60) z_people z_known z_toldMany z_texted z_cursor_e60 z_start_e60 z_token_e60 z_number_e60 z_isWrong_e60 z_items_e60 z_saidPeople_e60 z_saidLaw_e60 z_saidWeight_e60 z_saidNights_e60 z_saidMany_e60 z_saidWants_e60 z_st z_weight z_wantsMany z_wants z_isKept)
def f_X8_house_l29 {ρ : Type} (z_texted : Int32) (z_text : Nat → Int32) (k60 : Int32 → Int32 → Int32 → Int32 → Int32 → Int32 → Int32 → Int32 → (Nat → Int32) → (Nat → Int32) → (Nat → Int32) → (Nat → Int32) → Option ρ) (N : Nat) : Nat → Int32 → Int32 → Int32 → Int32 → Int32 → Int32 → Int32 → Int32 → (Nat → Int32) → (Nat → Int32) → (Nat → Int32) → (Nat → Int32) → Option ρ
  | 0, _, _, _, _, _, _, _, _, _, _, _, _ => none
  | n29 + 1, z_cursor_l29, z_start_l29, z_token_l29, z_number_l29, z_isWrong_l29, z_items_l29, z_saidPeople_l29, z_saidLaw_l29, z_saidWeight_l29, z_saidNights_l29, z_saidMany_l29, z_saidWants_l29 => if z_token_l29 = 0 then (k60 z_cursor_l29 z_start_l29 z_token_l29 z_number_l29 z_isWrong_l29 z_items_l29 z_saidPeople_l29 z_saidLaw_l29 z_saidWeight_l29 z_saidNights_l29 z_saidMany_l29 z_saidWants_l29) else (if z_isWrong_l29 = 0 then (f_X8_readItem N z_texted z_cursor_l29 z_start_l29 z_token_l29 z_number_l29 z_isWrong_l29 z_saidPeople_l29 z_saidLaw_l29 z_text z_saidWeight_l29 z_saidNights_l29 z_saidMany_l29 z_saidWants_l29 (fun z_cursor_44 z_start_44 z_token_44 z_number_44 z_isWrong_44 z_saidPeople_44 z_saidLaw_44 z_saidWeight_44 z_saidNights_44 z_saidMany_44 z_saidWants_44 => (f_X8_house_l29 z_texted z_text k60 N n29) z_cursor_44 z_start_44 z_token_44 z_number_44 z_isWrong_44 (z_items_l29 + 1) z_saidPeople_44 z_saidLaw_44 z_saidWeight_44 z_saidNights_44 z_saidMany_44 z_saidWants_44)) else (k60 z_cursor_l29 z_start_l29 z_token_l29 z_number_l29 z_isWrong_l29 z_items_l29 z_saidPeople_l29 z_saidLaw_l29 z_saidWeight_l29 z_saidNights_l29 z_saidMany_l29 z_saidWants_l29))
def f_X8_house {ρ : Type} (N : Nat) (z_people : Int32) (z_known : Int32) (z_toldMany : Int32) (z_texted : Int32) (z_text : Nat → Int32) (z_saidWeight : Nat → Int32) (z_saidNights : Nat → Int32) (z_saidMany : Nat → Int32) (z_saidWants : Nat → Int32) (z_st : Nat → Int32) (z_weight : Nat → Int32) (z_wantsMany : Nat → Int32) (z_wants : Nat → Int32) (z_isKept : Nat → Int32) (k : Int32 → Int32 → Int32 → Int32 → Int32 → Int32 → Int32 → Int32 → Int32 → Int32 → Int32 → Int32 → Int32 → (Nat → Int32) → (Nat → Int32) → (Nat → Int32) → (Nat → Int32) → (Nat → Int32) → (Nat → Int32) → (Nat → Int32) → (Nat → Int32) → (Nat → Int32) → Option ρ) : Option ρ := f_X8_next N z_texted 0 z_text (fun z_cursor_26 z_start_26 z_token_26 z_number_26 => f_X8_house_l29 z_texted z_text (fun z_cursor_e60 z_start_e60 z_token_e60 z_number_e60 z_isWrong_e60 z_items_e60 z_saidPeople_e60 z_saidLaw_e60 z_saidWeight_e60 z_saidNights_e60 z_saidMany_e60 z_saidWants_e60 => f_X8_house_e60 z_people z_known z_toldMany z_texted z_st z_weight z_wantsMany z_wants z_isKept k N z_cursor_e60 z_start_e60 z_token_e60 z_number_e60 z_isWrong_e60 z_items_e60 z_saidPeople_e60 z_saidLaw_e60 z_saidWeight_e60 z_saidNights_e60 z_saidMany_e60 z_saidWants_e60) N N z_cursor_26 z_start_26 z_token_26 z_number_26 0 0 0 (-1) z_saidWeight z_saidNights z_saidMany z_saidWants)
abbrev w_X8_house (cI cZ cQ cW : ClassId) (z_o : Nat) (z_weight_a : Nat) (z_wants_a : Nat) (z_wantsMany_a : Nat) (z_st_a : Nat) (z_was_a : Nat) (z_images_a : Nat) (z_isKept_a : Nat) (z_told_a : Nat) (z_text_a : Nat) (z_saidWeight_a : Nat) (z_saidNights_a : Nat) (z_saidWants_a : Nat) (z_saidMany_a : Nat) (z_now_a : Nat) (z_gave_a : Nat) (z_at_a : Nat) (z_way_a : Nat) (z_bestWay_a : Nat) (z_made_a : Nat) (z_people : Int32) (z_known : Int32) (z_toldMany : Int32) (z_trace : Int64) (z_texted : Int32) (z_cursor : Int32) (z_start : Int32) (z_token : Int32) (z_number : Int32) (z_isWrong : Int32) (z_items : Int32) (z_saidPeople : Int32) (z_saidLaw : Int32) (z_ringed : Int32) (z_lumps : Int32) (z_text : Nat → Int32) (z_saidWeight : Nat → Int32) (z_saidNights : Nat → Int32) (z_saidMany : Nat → Int32) (z_saidWants : Nat → Int32) (z_st : Nat → Int32) (z_weight : Nat → Int32) (z_wantsMany : Nat → Int32) (z_wants : Nat → Int32) (z_isKept : Nat → Int32) : va_W := [(z_o, .inr (8, [.int z_people, .ref z_weight_a, .ref z_wants_a, .ref z_wantsMany_a, .ref z_st_a, .ref z_was_a, .int z_known, .ref z_images_a, .ref z_isKept_a, .int z_toldMany, .ref z_told_a, .long z_trace, .ref z_text_a, .int z_texted, .int z_cursor, .int z_start, .int z_token, .int z_number, .int z_isWrong, .int z_items, .int z_saidPeople, .ref z_saidWeight_a, .ref z_saidNights_a, .ref z_saidWants_a, .ref z_saidMany_a, .int z_saidLaw, .ref z_now_a, .ref z_gave_a, .ref z_at_a, .int z_ringed, .int z_lumps, .ref z_way_a, .ref z_bestWay_a, .ref z_made_a])), (z_text_a, .inl (cI, 150, .inl z_text)), (z_saidWeight_a, .inl (cI, 6, .inl z_saidWeight)), (z_saidNights_a, .inl (cI, 6, .inl z_saidNights)), (z_saidMany_a, .inl (cI, 6, .inl z_saidMany)), (z_saidWants_a, .inl (cI, 24, .inl z_saidWants)), (z_st_a, .inl (cI, 25, .inl z_st)), (z_weight_a, .inl (cI, 6, .inl z_weight)), (z_wantsMany_a, .inl (cI, 6, .inl z_wantsMany)), (z_wants_a, .inl (cI, 24, .inl z_wants)), (z_isKept_a, .inl (cZ, 2, .inl z_isKept))]
abbrev rm_X8_house : Room := { frames := 6, cells := 0, slots := 0, locals := 132 }
set_option maxHeartbeats 4000000 in
set_option maxRecDepth 100000 in
theorem c_X8_house (l : Launch) (dC : Nat → ClassId) (dI : Nat → Nat → Nat) (cI cZ cQ cW : ClassId) (z_o : Nat) (z_weight_a : Nat) (z_wants_a : Nat) (z_wantsMany_a : Nat) (z_st_a : Nat) (z_was_a : Nat) (z_images_a : Nat) (z_isKept_a : Nat) (z_told_a : Nat) (z_text_a : Nat) (z_saidWeight_a : Nat) (z_saidNights_a : Nat) (z_saidWants_a : Nat) (z_saidMany_a : Nat) (z_now_a : Nat) (z_gave_a : Nat) (z_at_a : Nat) (z_way_a : Nat) (z_bestWay_a : Nat) (z_made_a : Nat) (z_people : Int32) (z_known : Int32) (z_toldMany : Int32) (z_trace : Int64) (z_texted : Int32) (z_cursor : Int32) (z_start : Int32) (z_token : Int32) (z_number : Int32) (z_isWrong : Int32) (z_items : Int32) (z_saidPeople : Int32) (z_saidLaw : Int32) (z_ringed : Int32) (z_lumps : Int32) (z_text : Nat → Int32) (z_saidWeight : Nat → Int32) (z_saidNights : Nat → Int32) (z_saidMany : Nat → Int32) (z_saidWants : Nat → Int32) (z_st : Nat → Int32) (z_weight : Nat → Int32) (z_wantsMany : Nat → Int32) (z_wants : Nat → Int32) (z_isKept : Nat → Int32) {ρ : Type} (N : Nat) (k : Int32 → Int32 → Int32 → Int32 → Int32 → Int32 → Int32 → Int32 → Int32 → Int32 → Int32 → Int32 → Int32 → (Nat → Int32) → (Nat → Int32) → (Nat → Int32) → (Nat → Int32) → (Nat → Int32) → (Nat → Int32) → (Nat → Int32) → (Nat → Int32) → (Nat → Int32) → Option ρ) (res : ρ) (h : f_X8_house N z_people z_known z_toldMany z_texted z_text z_saidWeight z_saidNights z_saidMany z_saidWants z_st z_weight z_wantsMany z_wants z_isKept k = some res) : Ci l yX8_house (WS yX8_house cX8_house 1 (some .int)) rm_X8_house (dC, dI) (tysG cI cZ cQ cW) E0 [.ref z_o] (w_X8_house cI cZ cQ cW z_o z_weight_a z_wants_a z_wantsMany_a z_st_a z_was_a z_images_a z_isKept_a z_told_a z_text_a z_saidWeight_a z_saidNights_a z_saidWants_a z_saidMany_a z_now_a z_gave_a z_at_a z_way_a z_bestWay_a z_made_a z_people z_known z_toldMany z_trace z_texted z_cursor z_start z_token z_number z_isWrong z_items z_saidPeople z_saidLaw z_ringed z_lumps z_text z_saidWeight z_saidNights z_saidMany z_saidWants z_st z_weight z_wantsMany z_wants z_isKept) (fun (u : Int32 × Int32 × Int32 × Int32 × Int32 × Int32 × Int32 × Int32 × Int32 × Int32 × Int32 × Int32 × (Nat → Int32) × (Nat → Int32) × (Nat → Int32) × (Nat → Int32) × (Nat → Int32) × (Nat → Int32) × (Nat → Int32) × (Nat → Int32) × (Nat → Int32)) => (w_X8_house cI cZ cQ cW z_o z_weight_a z_wants_a z_wantsMany_a z_st_a z_was_a z_images_a z_isKept_a z_told_a z_text_a z_saidWeight_a z_saidNights_a z_saidWants_a z_saidMany_a z_now_a z_gave_a z_at_a z_way_a z_bestWay_a z_made_a u.1 u.2.1 u.2.2.1 z_trace u.2.2.2.1 u.2.2.2.2.1 u.2.2.2.2.2.1 u.2.2.2.2.2.2.1 u.2.2.2.2.2.2.2.1 u.2.2.2.2.2.2.2.2.1 u.2.2.2.2.2.2.2.2.2.1 u.2.2.2.2.2.2.2.2.2.2.1 u.2.2.2.2.2.2.2.2.2.2.2.1 z_ringed z_lumps z_text u.2.2.2.2.2.2.2.2.2.2.2.2.1 u.2.2.2.2.2.2.2.2.2.2.2.2.2.1 u.2.2.2.2.2.2.2.2.2.2.2.2.2.2.1 u.2.2.2.2.2.2.2.2.2.2.2.2.2.2.2.1 u.2.2.2.2.2.2.2.2.2.2.2.2.2.2.2.2.1 u.2.2.2.2.2.2.2.2.2.2.2.2.2.2.2.2.2.1 u.2.2.2.2.2.2.2.2.2.2.2.2.2.2.2.2.2.2.1 u.2.2.2.2.2.2.2.2.2.2.2.2.2.2.2.2.2.2.2.1 u.2.2.2.2.2.2.2.2.2.2.2.2.2.2.2.2.2.2.2.2)) (fun r u => k r u.1 u.2.1 u.2.2.1 u.2.2.2.1 u.2.2.2.2.1 u.2.2.2.2.2.1 u.2.2.2.2.2.2.1 u.2.2.2.2.2.2.2.1 u.2.2.2.2.2.2.2.2.1 u.2.2.2.2.2.2.2.2.2.1 u.2.2.2.2.2.2.2.2.2.2.1 u.2.2.2.2.2.2.2.2.2.2.2.1 u.2.2.2.2.2.2.2.2.2.2.2.2.1 u.2.2.2.2.2.2.2.2.2.2.2.2.2.1 u.2.2.2.2.2.2.2.2.2.2.2.2.2.2.1 u.2.2.2.2.2.2.2.2.2.2.2.2.2.2.2.1 u.2.2.2.2.2.2.2.2.2.2.2.2.2.2.2.2.1 u.2.2.2.2.2.2.2.2.2.2.2.2.2.2.2.2.2.1 u.2.2.2.2.2.2.2.2.2.2.2.2.2.2.2.2.2.2.1 u.2.2.2.2.2.2.2.2.2.2.2.2.2.2.2.2.2.2.2.1 u.2.2.2.2.2.2.2.2.2.2.2.2.2.2.2.2.2.2.2.2 = some res) := by
  refine Ci.of (cc := cX8_house) (n := 1) (by decide +kernel) (Nat.le_of_ble_eq_true rfl) ?_
  intro p e s m args below meth c A ls Q B hW hE hS hl hQ
  have hx := B.1
  have hb := B.2.1
  have hl : lv_has ls 1 [(0, .ref z_o)] := hl
  unfold f_X8_house at h
  refine lv_aload_n (pc := 0) hx hb (tb_at tk_X8_house 0 rfl) rfl (lv_at hl 0 rfl) ?_
  refine lv_iconst (pc := 1) (v := 0) hx hb (tb_at tk_X8_house 1 rfl) (by decide) ?_
  refine k_put (pc := 2) (T := TX8) B inG8 tyX8 tyX8_ok nmX8 hW hS 0 rfl rfl 14 (by decide) q_f_X8_79 rfl rfl rfl rfl (Nat.le_of_ble_eq_true rfl) (tb_at tk_X8_house 2 rfl) (w_X8_house cI cZ cQ cW z_o z_weight_a z_wants_a z_wantsMany_a z_st_a z_was_a z_images_a z_isKept_a z_told_a z_text_a z_saidWeight_a z_saidNights_a z_saidWants_a z_saidMany_a z_now_a z_gave_a z_at_a z_way_a z_bestWay_a z_made_a z_people z_known z_toldMany z_trace z_texted 0 z_start z_token z_number z_isWrong z_items z_saidPeople z_saidLaw z_ringed z_lumps z_text z_saidWeight z_saidNights z_saidMany z_saidWants z_st z_weight z_wantsMany z_wants z_isKept) rfl (fun H locs hW hS => ?_)
  refine lv_aload_n (pc := 5) hx hb (tb_at tk_X8_house 3 rfl) rfl (lv_at hl 0 rfl) ?_
  refine lv_iconst (pc := 6) (v := 0) hx hb (tb_at tk_X8_house 4 rfl) (by decide) ?_
  refine k_put (pc := 7) (T := TX8) B inG8 tyX8 tyX8_ok nmX8 hW hS 0 rfl rfl 18 (by decide) q_f_X8_99 rfl rfl nz0 fz0 (Nat.le_of_ble_eq_true rfl) (tb_at tk_X8_house 5 rfl) (w_X8_house cI cZ cQ cW z_o z_weight_a z_wants_a z_wantsMany_a z_st_a z_was_a z_images_a z_isKept_a z_told_a z_text_a z_saidWeight_a z_saidNights_a z_saidWants_a z_saidMany_a z_now_a z_gave_a z_at_a z_way_a z_bestWay_a z_made_a z_people z_known z_toldMany z_trace z_texted 0 z_start z_token z_number 0 z_items z_saidPeople z_saidLaw z_ringed z_lumps z_text z_saidWeight z_saidNights z_saidMany z_saidWants z_st z_weight z_wantsMany z_wants z_isKept) rfl (fun H locs hW hS => ?_)
  refine lv_aload_n (pc := 10) hx hb (tb_at tk_X8_house 6 rfl) rfl (lv_at hl 0 rfl) ?_
  refine lv_iconst (pc := 11) (v := 0) hx hb (tb_at tk_X8_house 7 rfl) (by decide) ?_
  refine k_put (pc := 12) (T := TX8) B inG8 tyX8 tyX8_ok nmX8 hW hS 0 rfl rfl 19 (by decide) q_f_X8_126 rfl rfl rfl rfl (Nat.le_of_ble_eq_true rfl) (tb_at tk_X8_house 8 rfl) (w_X8_house cI cZ cQ cW z_o z_weight_a z_wants_a z_wantsMany_a z_st_a z_was_a z_images_a z_isKept_a z_told_a z_text_a z_saidWeight_a z_saidNights_a z_saidWants_a z_saidMany_a z_now_a z_gave_a z_at_a z_way_a z_bestWay_a z_made_a z_people z_known z_toldMany z_trace z_texted 0 z_start z_token z_number 0 0 z_saidPeople z_saidLaw z_ringed z_lumps z_text z_saidWeight z_saidNights z_saidMany z_saidWants z_st z_weight z_wantsMany z_wants z_isKept) rfl (fun H locs hW hS => ?_)
  refine lv_aload_n (pc := 15) hx hb (tb_at tk_X8_house 9 rfl) rfl (lv_at hl 0 rfl) ?_
  refine lv_iconst (pc := 16) (v := 0) hx hb (tb_at tk_X8_house 10 rfl) (by decide) ?_
  refine k_put (pc := 17) (T := TX8) B inG8 tyX8 tyX8_ok nmX8 hW hS 0 rfl rfl 20 (by decide) q_f_X8_106 rfl rfl rfl rfl (Nat.le_of_ble_eq_true rfl) (tb_at tk_X8_house 11 rfl) (w_X8_house cI cZ cQ cW z_o z_weight_a z_wants_a z_wantsMany_a z_st_a z_was_a z_images_a z_isKept_a z_told_a z_text_a z_saidWeight_a z_saidNights_a z_saidWants_a z_saidMany_a z_now_a z_gave_a z_at_a z_way_a z_bestWay_a z_made_a z_people z_known z_toldMany z_trace z_texted 0 z_start z_token z_number 0 0 0 z_saidLaw z_ringed z_lumps z_text z_saidWeight z_saidNights z_saidMany z_saidWants z_st z_weight z_wantsMany z_wants z_isKept) rfl (fun H locs hW hS => ?_)
  refine lv_aload_n (pc := 20) hx hb (tb_at tk_X8_house 12 rfl) rfl (lv_at hl 0 rfl) ?_
  refine lv_iconst (pc := 21) (v := (-1)) hx hb (tb_at tk_X8_house 13 rfl) (by decide) ?_
  refine k_put (pc := 22) (T := TX8) B inG8 tyX8 tyX8_ok nmX8 hW hS 0 rfl rfl 25 (by decide) q_f_X8_117 rfl rfl rfl rfl (Nat.le_of_ble_eq_true rfl) (tb_at tk_X8_house 14 rfl) (w_X8_house cI cZ cQ cW z_o z_weight_a z_wants_a z_wantsMany_a z_st_a z_was_a z_images_a z_isKept_a z_told_a z_text_a z_saidWeight_a z_saidNights_a z_saidWants_a z_saidMany_a z_now_a z_gave_a z_at_a z_way_a z_bestWay_a z_made_a z_people z_known z_toldMany z_trace z_texted 0 z_start z_token z_number 0 0 0 (-1) z_ringed z_lumps z_text z_saidWeight z_saidNights z_saidMany z_saidWants z_st z_weight z_wantsMany z_wants z_isKept) rfl (fun H locs hW hS => ?_)
  refine lv_aload_n (pc := 25) hx hb (tb_at tk_X8_house 15 rfl) rfl (lv_at hl 0 rfl) ?_
  refine k_callv (pc := 26) B (k_runVv (rest := []) (C := RX8) B (c_X8_next l dC dI cI cZ cQ cW z_o z_weight_a z_wants_a z_wantsMany_a z_st_a z_was_a z_images_a z_isKept_a z_told_a z_text_a z_saidWeight_a z_saidNights_a z_saidWants_a z_saidMany_a z_now_a z_gave_a z_at_a z_way_a z_bestWay_a z_made_a z_people z_known z_toldMany z_trace z_texted 0 z_start z_token z_number 0 0 0 (-1) z_ringed z_lumps z_text  N _ res h) E0_st (fun _ _ _ => trivial) q_c_X8_next q_m_X8_103 q_i_X8_next q_s_X8_next q_n_X8 hd_X8_next ⟨rfl, rfl⟩ ⟨Nat.le_of_ble_eq_true rfl, Nat.le_of_ble_eq_true rfl⟩ hW [0, 1] rfl (by decide +kernel) (q0 := 0) (ci := 8) rfl rfl rfl hl.1 rfl (Nat.le_of_ble_eq_true rfl) (tb_at tk_X8_house 16 rfl) ⟨Nat.zero_le _, Nat.zero_le _⟩) hW hS [0, 1] rfl [z_o, z_text_a] rfl (fun _ => rfl) [some 0, some 1, none, none, none, none, none, none, none, none, none] (by decide +kernel) (fun u => (w_X8_house cI cZ cQ cW z_o z_weight_a z_wants_a z_wantsMany_a z_st_a z_was_a z_images_a z_isKept_a z_told_a z_text_a z_saidWeight_a z_saidNights_a z_saidWants_a z_saidMany_a z_now_a z_gave_a z_at_a z_way_a z_bestWay_a z_made_a z_people z_known z_toldMany z_trace z_texted u.1 u.2.1 u.2.2.1 u.2.2.2 0 0 0 (-1) z_ringed z_lumps z_text z_saidWeight z_saidNights z_saidMany z_saidWants z_st z_weight z_wantsMany z_wants z_isKept)) (fun _ => rfl) (fun u H locs h hW hS => ?_)
  obtain ⟨z_cursor_26, z_start_26, z_token_26, z_number_26⟩ := u
  dsimp only at h
  have hW : PD (dC, dI) A (w_X8_house cI cZ cQ cW z_o z_weight_a z_wants_a z_wantsMany_a z_st_a z_was_a z_images_a z_isKept_a z_told_a z_text_a z_saidWeight_a z_saidNights_a z_saidWants_a z_saidMany_a z_now_a z_gave_a z_at_a z_way_a z_bestWay_a z_made_a z_people z_known z_toldMany z_trace z_texted z_cursor_26 z_start_26 z_token_26 z_number_26 0 0 0 (-1) z_ringed z_lumps z_text z_saidWeight z_saidNights z_saidMany z_saidWants z_st z_weight z_wantsMany z_wants z_isKept) H := hW
  have w60 : ∀ (z_cursor_e60 : Int32) (z_start_e60 : Int32) (z_token_e60 : Int32) (z_number_e60 : Int32) (z_isWrong_e60 : Int32) (z_items_e60 : Int32) (z_saidPeople_e60 : Int32) (z_saidLaw_e60 : Int32) (z_saidWeight_e60 : Nat → Int32) (z_saidNights_e60 : Nat → Int32) (z_saidMany_e60 : Nat → Int32) (z_saidWants_e60 : Nat → Int32) (H : Heap) (locs : List Loc) (ls : Array Slot), f_X8_house_e60 z_people z_known z_toldMany z_texted z_st z_weight z_wantsMany z_wants z_isKept k N z_cursor_e60 z_start_e60 z_token_e60 z_number_e60 z_isWrong_e60 z_items_e60 z_saidPeople_e60 z_saidLaw_e60 z_saidWeight_e60 z_saidNights_e60 z_saidMany_e60 z_saidWants_e60 = some res → PD (dC, dI) A (w_X8_house cI cZ cQ cW z_o z_weight_a z_wants_a z_wantsMany_a z_st_a z_was_a z_images_a z_isKept_a z_told_a z_text_a z_saidWeight_a z_saidNights_a z_saidWants_a z_saidMany_a z_now_a z_gave_a z_at_a z_way_a z_bestWay_a z_made_a z_people z_known z_toldMany z_trace z_texted z_cursor_e60 z_start_e60 z_token_e60 z_number_e60 z_isWrong_e60 z_items_e60 z_saidPeople_e60 z_saidLaw_e60 z_ringed z_lumps z_text z_saidWeight_e60 z_saidNights_e60 z_saidMany_e60 z_saidWants_e60 z_st z_weight z_wantsMany z_wants z_isKept) H → va_S A s.heap H locs → lv_has ls 1 [(0, .ref z_o)] → W p l e rm_X8_house s m args below meth c H locs 0 0 Q (F0 m 60 ls []) := by
    intro z_cursor_e60 z_start_e60 z_token_e60 z_number_e60 z_isWrong_e60 z_items_e60 z_saidPeople_e60 z_saidLaw_e60 z_saidWeight_e60 z_saidNights_e60 z_saidMany_e60 z_saidWants_e60 H locs ls h hW hS hl
    unfold f_X8_house_e60 at h
    refine lv_aload_n (pc := 60) hx hb (tb_at tk_X8_house 32 rfl) rfl (lv_at hl 0 rfl) ?_
    refine k_get (pc := 61) (v := .int z_isWrong_e60) (T := TX8) B inG8 hW 0 rfl rfl 18 (by decide) q_f_X8_99 rfl rfl (tb_at tk_X8_house 33 rfl) ?_
    refine lv_if_eq (pc := 64) (tgt := 75) hx hb (tb_at tk_X8_house 34 rfl) (by decide) (fun cc => ?_) (fun cc => ?_)
    · have h := it_t cc h
      refine lv_aload_n (pc := 75) hx hb (tb_at tk_X8_house 40 rfl) rfl (lv_at hl 0 rfl) ?_
      refine k_callv (pc := 76) B (k_runVv (rest := []) (C := RX8) B (c_X8_settles l dC dI cI cZ cQ cW z_o z_weight_a z_wants_a z_wantsMany_a z_st_a z_was_a z_images_a z_isKept_a z_told_a z_text_a z_saidWeight_a z_saidNights_a z_saidWants_a z_saidMany_a z_now_a z_gave_a z_at_a z_way_a z_bestWay_a z_made_a z_people z_known z_toldMany z_trace z_texted z_cursor_e60 z_start_e60 z_token_e60 z_number_e60 z_isWrong_e60 z_items_e60 z_saidPeople_e60 z_saidLaw_e60 z_ringed z_lumps z_st z_saidWeight_e60 z_weight z_saidMany_e60 z_wantsMany z_saidNights_e60 z_saidWants_e60 z_wants z_isKept  N _ res h) E0_st (fun _ _ _ => trivial) q_c_X8_settles q_m_X8_132 q_i_X8_settles q_s_X8_settles q_n_X8 hd_X8_settles ⟨rfl, rfl⟩ ⟨Nat.le_of_ble_eq_true rfl, Nat.le_of_ble_eq_true rfl⟩ hW [0, 6, 2, 7, 4, 8, 3, 5, 9, 10] rfl (by decide +kernel) (q0 := 0) (ci := 8) rfl rfl rfl hl.1 rfl (Nat.le_of_ble_eq_true rfl) (tb_at tk_X8_house 41 rfl) ⟨Nat.zero_le _, Nat.zero_le _⟩) hW hS [0, 6, 2, 7, 4, 8, 3, 5, 9, 10] rfl [z_o, z_st_a, z_saidWeight_a, z_weight_a, z_saidMany_a, z_wantsMany_a, z_saidNights_a, z_saidWants_a, z_wants_a, z_isKept_a] rfl (fun _ => rfl) [some 0, none, some 2, some 6, some 4, some 7, some 1, some 3, some 5, some 8, some 9] (by decide +kernel) (fun u => (w_X8_house cI cZ cQ cW z_o z_weight_a z_wants_a z_wantsMany_a z_st_a z_was_a z_images_a z_isKept_a z_told_a z_text_a z_saidWeight_a z_saidNights_a z_saidWants_a z_saidMany_a z_now_a z_gave_a z_at_a z_way_a z_bestWay_a z_made_a u.1 u.2.1 u.2.2.1 z_trace u.2.2.2.1 z_cursor_e60 z_start_e60 z_token_e60 z_number_e60 z_isWrong_e60 z_items_e60 z_saidPeople_e60 z_saidLaw_e60 z_ringed z_lumps z_text z_saidWeight_e60 z_saidNights_e60 z_saidMany_e60 z_saidWants_e60 u.2.2.2.2.1 u.2.2.2.2.2.1 u.2.2.2.2.2.2.1 u.2.2.2.2.2.2.2.1 u.2.2.2.2.2.2.2.2)) (fun _ => rfl) (fun u H locs h hW hS => ?_)
      obtain ⟨z_people_76, z_known_76, z_toldMany_76, z_texted_76, z_st_76, z_weight_76, z_wantsMany_76, z_wants_76, z_isKept_76⟩ := u
      dsimp only at h
      have hW : PD (dC, dI) A (w_X8_house cI cZ cQ cW z_o z_weight_a z_wants_a z_wantsMany_a z_st_a z_was_a z_images_a z_isKept_a z_told_a z_text_a z_saidWeight_a z_saidNights_a z_saidWants_a z_saidMany_a z_now_a z_gave_a z_at_a z_way_a z_bestWay_a z_made_a z_people_76 z_known_76 z_toldMany_76 z_trace z_texted_76 z_cursor_e60 z_start_e60 z_token_e60 z_number_e60 z_isWrong_e60 z_items_e60 z_saidPeople_e60 z_saidLaw_e60 z_ringed z_lumps z_text z_saidWeight_e60 z_saidNights_e60 z_saidMany_e60 z_saidWants_e60 z_st_76 z_weight_76 z_wantsMany_76 z_wants_76 z_isKept_76) H := hW
      refine lv_aload_n (pc := 79) hx hb (tb_at tk_X8_house 42 rfl) rfl (lv_at hl 0 rfl) ?_
      refine k_get (pc := 80) (v := .int z_items_e60) (T := TX8) B inG8 hW 0 rfl rfl 19 (by decide) q_f_X8_126 rfl rfl (tb_at tk_X8_house 43 rfl) ?_
      exact hQ z_items_e60 (z_people_76, z_known_76, z_toldMany_76, z_texted_76, z_cursor_e60, z_start_e60, z_token_e60, z_number_e60, z_isWrong_e60, z_items_e60, z_saidPeople_e60, z_saidLaw_e60, z_saidWeight_e60, z_saidNights_e60, z_saidMany_e60, z_saidWants_e60, z_st_76, z_weight_76, z_wantsMany_76, z_wants_76, z_isKept_76) _ _ _ 83 rfl h hW hS (tb_at tk_X8_house 44 rfl)
    · have h := it_f cc h
      refine lv_bipush (pc := 67) (v := (-10)) hx hb (tb_at tk_X8_house 35 rfl) (by decide) ?_
      refine lv_aload_n (pc := 69) hx hb (tb_at tk_X8_house 36 rfl) rfl (lv_at hl 0 rfl) ?_
      refine k_get (pc := 70) (v := .int z_start_e60) (T := TX8) B inG8 hW 0 rfl rfl 15 (by decide) q_f_X8_86 rfl rfl (tb_at tk_X8_house 37 rfl) ?_
      refine lv_isub (pc := 73) hx hb (tb_at tk_X8_house 38 rfl) ?_
      exact hQ ((-10 : Int32) - z_start_e60) (z_people, z_known, z_toldMany, z_texted, z_cursor_e60, z_start_e60, z_token_e60, z_number_e60, z_isWrong_e60, z_items_e60, z_saidPeople_e60, z_saidLaw_e60, z_saidWeight_e60, z_saidNights_e60, z_saidMany_e60, z_saidWants_e60, z_st, z_weight, z_wantsMany, z_wants, z_isKept) _ _ _ 74 rfl h hW hS (tb_at tk_X8_house 39 rfl)
  have w29 : ∀ (n : Nat), ∀ (z_cursor_l29 : Int32) (z_start_l29 : Int32) (z_token_l29 : Int32) (z_number_l29 : Int32) (z_isWrong_l29 : Int32) (z_items_l29 : Int32) (z_saidPeople_l29 : Int32) (z_saidLaw_l29 : Int32) (z_saidWeight_l29 : Nat → Int32) (z_saidNights_l29 : Nat → Int32) (z_saidMany_l29 : Nat → Int32) (z_saidWants_l29 : Nat → Int32) (H : Heap) (locs : List Loc) (ls : Array Slot), f_X8_house_l29 z_texted z_text (fun z_cursor_e60 z_start_e60 z_token_e60 z_number_e60 z_isWrong_e60 z_items_e60 z_saidPeople_e60 z_saidLaw_e60 z_saidWeight_e60 z_saidNights_e60 z_saidMany_e60 z_saidWants_e60 => f_X8_house_e60 z_people z_known z_toldMany z_texted z_st z_weight z_wantsMany z_wants z_isKept k N z_cursor_e60 z_start_e60 z_token_e60 z_number_e60 z_isWrong_e60 z_items_e60 z_saidPeople_e60 z_saidLaw_e60 z_saidWeight_e60 z_saidNights_e60 z_saidMany_e60 z_saidWants_e60) N n z_cursor_l29 z_start_l29 z_token_l29 z_number_l29 z_isWrong_l29 z_items_l29 z_saidPeople_l29 z_saidLaw_l29 z_saidWeight_l29 z_saidNights_l29 z_saidMany_l29 z_saidWants_l29 = some res → PD (dC, dI) A (w_X8_house cI cZ cQ cW z_o z_weight_a z_wants_a z_wantsMany_a z_st_a z_was_a z_images_a z_isKept_a z_told_a z_text_a z_saidWeight_a z_saidNights_a z_saidWants_a z_saidMany_a z_now_a z_gave_a z_at_a z_way_a z_bestWay_a z_made_a z_people z_known z_toldMany z_trace z_texted z_cursor_l29 z_start_l29 z_token_l29 z_number_l29 z_isWrong_l29 z_items_l29 z_saidPeople_l29 z_saidLaw_l29 z_ringed z_lumps z_text z_saidWeight_l29 z_saidNights_l29 z_saidMany_l29 z_saidWants_l29 z_st z_weight z_wantsMany z_wants z_isKept) H → va_S A s.heap H locs → lv_has ls 1 [(0, .ref z_o)] → W p l e rm_X8_house s m args below meth c H locs 0 0 Q (F0 m 29 ls []) := by
    intro n
    induction n with
    | zero => intro z_cursor_l29 z_start_l29 z_token_l29 z_number_l29 z_isWrong_l29 z_items_l29 z_saidPeople_l29 z_saidLaw_l29 z_saidWeight_l29 z_saidNights_l29 z_saidMany_l29 z_saidWants_l29 H locs ls h; exact no_n h
    | succ n29 ih29 =>
      intro z_cursor_l29 z_start_l29 z_token_l29 z_number_l29 z_isWrong_l29 z_items_l29 z_saidPeople_l29 z_saidLaw_l29 z_saidWeight_l29 z_saidNights_l29 z_saidMany_l29 z_saidWants_l29 H locs ls h hW hS hl
      rw [f_X8_house_l29] at h
      refine lv_aload_n (pc := 29) hx hb (tb_at tk_X8_house 17 rfl) rfl (lv_at hl 0 rfl) ?_
      refine k_get (pc := 30) (v := .int z_token_l29) (T := TX8) B inG8 hW 0 rfl rfl 16 (by decide) q_f_X8_92 rfl rfl (tb_at tk_X8_house 18 rfl) ?_
      refine lv_if_eq (pc := 33) (tgt := 60) hx hb (tb_at tk_X8_house 19 rfl) (by decide) (fun cc => ?_) (fun cc => ?_)
      · have h := it_t cc h
        exact w60 z_cursor_l29 z_start_l29 z_token_l29 z_number_l29 z_isWrong_l29 z_items_l29 z_saidPeople_l29 z_saidLaw_l29 z_saidWeight_l29 z_saidNights_l29 z_saidMany_l29 z_saidWants_l29 _ _ _ h hW hS (lv_sub hl [0] rfl)
      · have h := it_f cc h
        refine lv_aload_n (pc := 36) hx hb (tb_at tk_X8_house 20 rfl) rfl (lv_at hl 0 rfl) ?_
        refine k_get (pc := 37) (v := .int z_isWrong_l29) (T := TX8) B inG8 hW 0 rfl rfl 18 (by decide) q_f_X8_99 rfl rfl (tb_at tk_X8_house 21 rfl) ?_
        refine lv_if_ne (pc := 40) (tgt := 60) hx hb (tb_at tk_X8_house 22 rfl) (by decide) (fun cc => ?_) (fun cc => ?_)
        · have h := it_f cc h
          exact w60 z_cursor_l29 z_start_l29 z_token_l29 z_number_l29 z_isWrong_l29 z_items_l29 z_saidPeople_l29 z_saidLaw_l29 z_saidWeight_l29 z_saidNights_l29 z_saidMany_l29 z_saidWants_l29 _ _ _ h hW hS (lv_sub hl [0] rfl)
        · have h := it_t cc h
          refine lv_aload_n (pc := 43) hx hb (tb_at tk_X8_house 23 rfl) rfl (lv_at hl 0 rfl) ?_
          refine k_callv (pc := 44) B (k_runVv (rest := []) (C := RX8) B (c_X8_readItem l dC dI cI cZ cQ cW z_o z_weight_a z_wants_a z_wantsMany_a z_st_a z_was_a z_images_a z_isKept_a z_told_a z_text_a z_saidWeight_a z_saidNights_a z_saidWants_a z_saidMany_a z_now_a z_gave_a z_at_a z_way_a z_bestWay_a z_made_a z_people z_known z_toldMany z_trace z_texted z_cursor_l29 z_start_l29 z_token_l29 z_number_l29 z_isWrong_l29 z_items_l29 z_saidPeople_l29 z_saidLaw_l29 z_ringed z_lumps z_text z_saidWeight_l29 z_saidNights_l29 z_saidMany_l29 z_saidWants_l29  N _ res h) E0_st (fun _ _ _ => trivial) q_c_X8_readItem q_m_X8_129 q_i_X8_readItem q_s_X8_readItem q_n_X8 hd_X8_readItem ⟨rfl, rfl⟩ ⟨Nat.le_of_ble_eq_true rfl, Nat.le_of_ble_eq_true rfl⟩ hW [0, 1, 2, 3, 4, 5] rfl (by decide +kernel) (q0 := 0) (ci := 8) rfl rfl rfl hl.1 rfl (Nat.le_of_ble_eq_true rfl) (tb_at tk_X8_house 24 rfl) ⟨Nat.zero_le _, Nat.zero_le _⟩) hW hS [0, 1, 2, 3, 4, 5] rfl [z_o, z_text_a, z_saidWeight_a, z_saidNights_a, z_saidMany_a, z_saidWants_a] rfl (fun _ => rfl) [some 0, some 1, some 2, some 3, some 4, some 5, none, none, none, none, none] (by decide +kernel) (fun u => (w_X8_house cI cZ cQ cW z_o z_weight_a z_wants_a z_wantsMany_a z_st_a z_was_a z_images_a z_isKept_a z_told_a z_text_a z_saidWeight_a z_saidNights_a z_saidWants_a z_saidMany_a z_now_a z_gave_a z_at_a z_way_a z_bestWay_a z_made_a z_people z_known z_toldMany z_trace z_texted u.1 u.2.1 u.2.2.1 u.2.2.2.1 u.2.2.2.2.1 z_items_l29 u.2.2.2.2.2.1 u.2.2.2.2.2.2.1 z_ringed z_lumps z_text u.2.2.2.2.2.2.2.1 u.2.2.2.2.2.2.2.2.1 u.2.2.2.2.2.2.2.2.2.1 u.2.2.2.2.2.2.2.2.2.2 z_st z_weight z_wantsMany z_wants z_isKept)) (fun _ => rfl) (fun u H locs h hW hS => ?_)
          obtain ⟨z_cursor_44, z_start_44, z_token_44, z_number_44, z_isWrong_44, z_saidPeople_44, z_saidLaw_44, z_saidWeight_44, z_saidNights_44, z_saidMany_44, z_saidWants_44⟩ := u
          dsimp only at h
          have hW : PD (dC, dI) A (w_X8_house cI cZ cQ cW z_o z_weight_a z_wants_a z_wantsMany_a z_st_a z_was_a z_images_a z_isKept_a z_told_a z_text_a z_saidWeight_a z_saidNights_a z_saidWants_a z_saidMany_a z_now_a z_gave_a z_at_a z_way_a z_bestWay_a z_made_a z_people z_known z_toldMany z_trace z_texted z_cursor_44 z_start_44 z_token_44 z_number_44 z_isWrong_44 z_items_l29 z_saidPeople_44 z_saidLaw_44 z_ringed z_lumps z_text z_saidWeight_44 z_saidNights_44 z_saidMany_44 z_saidWants_44 z_st z_weight z_wantsMany z_wants z_isKept) H := hW
          refine lv_aload_n (pc := 47) hx hb (tb_at tk_X8_house 25 rfl) rfl (lv_at hl 0 rfl) ?_
          refine lv_dup (pc := 48) hx hb (tb_at tk_X8_house 26 rfl) rfl ?_
          refine k_get (pc := 49) (v := .int z_items_l29) (T := TX8) B inG8 hW 0 rfl rfl 19 (by decide) q_f_X8_126 rfl rfl (tb_at tk_X8_house 27 rfl) ?_
          refine lv_iconst (pc := 52) (v := 1) hx hb (tb_at tk_X8_house 28 rfl) (by decide) ?_
          refine lv_iadd (pc := 53) hx hb (tb_at tk_X8_house 29 rfl) ?_
          refine k_put (pc := 54) (T := TX8) B inG8 tyX8 tyX8_ok nmX8 hW hS 0 rfl rfl 19 (by decide) q_f_X8_126 rfl rfl rfl rfl (Nat.le_of_ble_eq_true rfl) (tb_at tk_X8_house 30 rfl) (w_X8_house cI cZ cQ cW z_o z_weight_a z_wants_a z_wantsMany_a z_st_a z_was_a z_images_a z_isKept_a z_told_a z_text_a z_saidWeight_a z_saidNights_a z_saidWants_a z_saidMany_a z_now_a z_gave_a z_at_a z_way_a z_bestWay_a z_made_a z_people z_known z_toldMany z_trace z_texted z_cursor_44 z_start_44 z_token_44 z_number_44 z_isWrong_44 (z_items_l29 + 1) z_saidPeople_44 z_saidLaw_44 z_ringed z_lumps z_text z_saidWeight_44 z_saidNights_44 z_saidMany_44 z_saidWants_44 z_st z_weight z_wantsMany z_wants z_isKept) rfl (fun H locs hW hS => ?_)
          refine lv_goto (pc := 57) (tgt := 29) hx hb (tb_at tk_X8_house 31 rfl) (by decide) ?_
          exact ih29 z_cursor_44 z_start_44 z_token_44 z_number_44 z_isWrong_44 (z_items_l29 + 1) z_saidPeople_44 z_saidLaw_44 z_saidWeight_44 z_saidNights_44 z_saidMany_44 z_saidWants_44 _ _ _ h hW hS (lv_sub hl [0] rfl)
  exact w29 N z_cursor_26 z_start_26 z_token_26 z_number_26 0 0 0 (-1) z_saidWeight z_saidNights z_saidMany z_saidWants _ _ _ h hW hS (lv_sub hl [0] rfl)
def f_X8_asItIs {ρ : Type} (N : Nat) (z_st : Nat → Int32) (z_now : Nat → Int32) (k : (Nat → Int32) → Option ρ) : Option ρ := f_X8_copy N z_st z_now 25 25 0 0 (fun z_now_10 => k z_now_10)
abbrev w_X8_asItIs (cI cZ cQ cW : ClassId) (z_o : Nat) (z_weight_a : Nat) (z_wants_a : Nat) (z_wantsMany_a : Nat) (z_st_a : Nat) (z_was_a : Nat) (z_images_a : Nat) (z_isKept_a : Nat) (z_told_a : Nat) (z_text_a : Nat) (z_saidWeight_a : Nat) (z_saidNights_a : Nat) (z_saidWants_a : Nat) (z_saidMany_a : Nat) (z_now_a : Nat) (z_gave_a : Nat) (z_at_a : Nat) (z_way_a : Nat) (z_bestWay_a : Nat) (z_made_a : Nat) (z_people : Int32) (z_known : Int32) (z_toldMany : Int32) (z_trace : Int64) (z_texted : Int32) (z_cursor : Int32) (z_start : Int32) (z_token : Int32) (z_number : Int32) (z_isWrong : Int32) (z_items : Int32) (z_saidPeople : Int32) (z_saidLaw : Int32) (z_ringed : Int32) (z_lumps : Int32) (z_st : Nat → Int32) (z_now : Nat → Int32) : va_W := [(z_o, .inr (8, [.int z_people, .ref z_weight_a, .ref z_wants_a, .ref z_wantsMany_a, .ref z_st_a, .ref z_was_a, .int z_known, .ref z_images_a, .ref z_isKept_a, .int z_toldMany, .ref z_told_a, .long z_trace, .ref z_text_a, .int z_texted, .int z_cursor, .int z_start, .int z_token, .int z_number, .int z_isWrong, .int z_items, .int z_saidPeople, .ref z_saidWeight_a, .ref z_saidNights_a, .ref z_saidWants_a, .ref z_saidMany_a, .int z_saidLaw, .ref z_now_a, .ref z_gave_a, .ref z_at_a, .int z_ringed, .int z_lumps, .ref z_way_a, .ref z_bestWay_a, .ref z_made_a])), (z_st_a, .inl (cI, 25, .inl z_st)), (z_now_a, .inl (cI, 25, .inl z_now))]
abbrev rm_X8_asItIs : Room := { frames := 1, cells := 0, slots := 0, locals := 24 }
set_option maxHeartbeats 4000000 in
set_option maxRecDepth 100000 in
theorem c_X8_asItIs (l : Launch) (dC : Nat → ClassId) (dI : Nat → Nat → Nat) (cI cZ cQ cW : ClassId) (z_o : Nat) (z_weight_a : Nat) (z_wants_a : Nat) (z_wantsMany_a : Nat) (z_st_a : Nat) (z_was_a : Nat) (z_images_a : Nat) (z_isKept_a : Nat) (z_told_a : Nat) (z_text_a : Nat) (z_saidWeight_a : Nat) (z_saidNights_a : Nat) (z_saidWants_a : Nat) (z_saidMany_a : Nat) (z_now_a : Nat) (z_gave_a : Nat) (z_at_a : Nat) (z_way_a : Nat) (z_bestWay_a : Nat) (z_made_a : Nat) (z_people : Int32) (z_known : Int32) (z_toldMany : Int32) (z_trace : Int64) (z_texted : Int32) (z_cursor : Int32) (z_start : Int32) (z_token : Int32) (z_number : Int32) (z_isWrong : Int32) (z_items : Int32) (z_saidPeople : Int32) (z_saidLaw : Int32) (z_ringed : Int32) (z_lumps : Int32) (z_st : Nat → Int32) (z_now : Nat → Int32) {ρ : Type} (N : Nat) (k : (Nat → Int32) → Option ρ) (res : ρ) (h : f_X8_asItIs N z_st z_now k = some res) : Cv l yX8_asItIs (WS yX8_asItIs cX8_asItIs 1 none) rm_X8_asItIs (dC, dI) (tysG cI cZ cQ cW) E0 [.ref z_o] (w_X8_asItIs cI cZ cQ cW z_o z_weight_a z_wants_a z_wantsMany_a z_st_a z_was_a z_images_a z_isKept_a z_told_a z_text_a z_saidWeight_a z_saidNights_a z_saidWants_a z_saidMany_a z_now_a z_gave_a z_at_a z_way_a z_bestWay_a z_made_a z_people z_known z_toldMany z_trace z_texted z_cursor z_start z_token z_number z_isWrong z_items z_saidPeople z_saidLaw z_ringed z_lumps z_st z_now) (fun (u : (Nat → Int32)) => (w_X8_asItIs cI cZ cQ cW z_o z_weight_a z_wants_a z_wantsMany_a z_st_a z_was_a z_images_a z_isKept_a z_told_a z_text_a z_saidWeight_a z_saidNights_a z_saidWants_a z_saidMany_a z_now_a z_gave_a z_at_a z_way_a z_bestWay_a z_made_a z_people z_known z_toldMany z_trace z_texted z_cursor z_start z_token z_number z_isWrong z_items z_saidPeople z_saidLaw z_ringed z_lumps z_st u)) (fun u => k u = some res) := by
  refine Cv.of (cc := cX8_asItIs) (n := 1) (by decide +kernel) (Nat.le_of_ble_eq_true rfl) ?_
  intro p e s m args below meth c A ls Q B hW hE hS hl hQ
  have hx := B.1
  have hb := B.2.1
  have hl : lv_has ls 1 [(0, .ref z_o)] := hl
  unfold f_X8_asItIs at h
  refine lv_aload_n (pc := 0) hx hb (tb_at tk_X8_asItIs 0 rfl) rfl (lv_at hl 0 rfl) ?_
  refine k_get (pc := 1) (v := .ref z_now_a) (T := TX8) B inG8 hW 0 rfl rfl 26 (by decide) q_f_X8_50 rfl rfl (tb_at tk_X8_asItIs 1 rfl) ?_
  refine lv_iconst (pc := 4) (v := 0) hx hb (tb_at tk_X8_asItIs 2 rfl) (by decide) ?_
  refine lv_aload_n (pc := 5) hx hb (tb_at tk_X8_asItIs 3 rfl) rfl (lv_at hl 0 rfl) ?_
  refine k_get (pc := 6) (v := .ref z_st_a) (T := TX8) B inG8 hW 0 rfl rfl 4 (by decide) q_f_X8_19 rfl rfl (tb_at tk_X8_asItIs 4 rfl) ?_
  refine lv_iconst (pc := 9) (v := 0) hx hb (tb_at tk_X8_asItIs 5 rfl) (by decide) ?_
  refine k_callv (pc := 10) B (k_runSv (rest := []) (host := "") B (c_X8_copy l dC dI cI cZ cQ cW z_st_a 25 z_now_a 25 z_st z_now 0 0 N _ res h) E0_st (fun _ _ _ => trivial) q_c_X8_copy q_m_X8_141 q_t_X8_copy q_n_X8 hd_X8_copy ⟨rfl, rfl⟩ ⟨Nat.le_of_ble_eq_true rfl, Nat.le_of_ble_eq_true rfl⟩ hW [1, 2] rfl (by decide +kernel) rfl hl.1 rfl (Nat.le_of_ble_eq_true rfl) (tb_at tk_X8_asItIs 6 rfl) ⟨Nat.zero_le _, Nat.zero_le _⟩) hW hS [1, 2] rfl [z_st_a, z_now_a] rfl (fun _ => rfl) [none, some 0, some 1] (by decide +kernel) (fun u => (w_X8_asItIs cI cZ cQ cW z_o z_weight_a z_wants_a z_wantsMany_a z_st_a z_was_a z_images_a z_isKept_a z_told_a z_text_a z_saidWeight_a z_saidNights_a z_saidWants_a z_saidMany_a z_now_a z_gave_a z_at_a z_way_a z_bestWay_a z_made_a z_people z_known z_toldMany z_trace z_texted z_cursor z_start z_token z_number z_isWrong z_items z_saidPeople z_saidLaw z_ringed z_lumps z_st u)) (fun _ => rfl) (fun u H locs h hW hS => ?_)
  obtain ⟨z_now_10, rfl⟩ : ∃ z9, z9 = u := ⟨_, rfl⟩
  have hW : PD (dC, dI) A (w_X8_asItIs cI cZ cQ cW z_o z_weight_a z_wants_a z_wantsMany_a z_st_a z_was_a z_images_a z_isKept_a z_told_a z_text_a z_saidWeight_a z_saidNights_a z_saidWants_a z_saidMany_a z_now_a z_gave_a z_at_a z_way_a z_bestWay_a z_made_a z_people z_known z_toldMany z_trace z_texted z_cursor z_start z_token z_number z_isWrong z_items z_saidPeople z_saidLaw z_ringed z_lumps z_st z_now_10) H := hW
  exact hQ (z_now_10) _ _ _ 13 h hW hS (tb_at tk_X8_asItIs 7 rfl)
def f_X8_whoGave_j39 {ρ : Type} (y3_l5 : Int32) (y4_l5 : Int32) (kb5 : Int32 → Int32 → Option ρ) : Option ρ := kb5 y3_l5 (y4_l5 + 1)
def f_X8_whoGave_l5 {ρ : Type} (x1 : Int32) (x2 : Int32) (z_people : Int32) (z_gave : Nat → Int32) (k : Int32 → Option ρ) (N : Nat) : Nat → Int32 → Int32 → Option ρ
  | 0, _, _ => none
  | n5 + 1, y3_l5, y4_l5 => if z_people ≤ y4_l5 then (k y3_l5) else (f_X8_has N x1 y4_l5 (fun r17 => if r17 = 0 then (f_X8_whoGave_j39 y3_l5 y4_l5 (f_X8_whoGave_l5 x1 x2 z_people z_gave k N n5) ) else (ck (ivi y4_l5 6) (if (z_gave (y4_l5).toNatClampNeg) = x2 then ((f_X8_whoGave_l5 x1 x2 z_people z_gave k N n5) y4_l5 (y4_l5 + 1)) else (f_X8_whoGave_j39 y3_l5 y4_l5 (f_X8_whoGave_l5 x1 x2 z_people z_gave k N n5) )))))
def f_X8_whoGave {ρ : Type} (N : Nat) (z_people : Int32) (z_gave : Nat → Int32) (x1 : Int32) (x2 : Int32) (k : Int32 → Option ρ) : Option ρ := f_X8_whoGave_l5 x1 x2 z_people z_gave k N N (-1) 0
abbrev w_X8_whoGave (cI cZ cQ cW : ClassId) (z_o : Nat) (z_weight_a : Nat) (z_wants_a : Nat) (z_wantsMany_a : Nat) (z_st_a : Nat) (z_was_a : Nat) (z_images_a : Nat) (z_isKept_a : Nat) (z_told_a : Nat) (z_text_a : Nat) (z_saidWeight_a : Nat) (z_saidNights_a : Nat) (z_saidWants_a : Nat) (z_saidMany_a : Nat) (z_now_a : Nat) (z_gave_a : Nat) (z_at_a : Nat) (z_way_a : Nat) (z_bestWay_a : Nat) (z_made_a : Nat) (z_people : Int32) (z_known : Int32) (z_toldMany : Int32) (z_trace : Int64) (z_texted : Int32) (z_cursor : Int32) (z_start : Int32) (z_token : Int32) (z_number : Int32) (z_isWrong : Int32) (z_items : Int32) (z_saidPeople : Int32) (z_saidLaw : Int32) (z_ringed : Int32) (z_lumps : Int32) (z_gave : Nat → Int32) : va_W := [(z_o, .inr (8, [.int z_people, .ref z_weight_a, .ref z_wants_a, .ref z_wantsMany_a, .ref z_st_a, .ref z_was_a, .int z_known, .ref z_images_a, .ref z_isKept_a, .int z_toldMany, .ref z_told_a, .long z_trace, .ref z_text_a, .int z_texted, .int z_cursor, .int z_start, .int z_token, .int z_number, .int z_isWrong, .int z_items, .int z_saidPeople, .ref z_saidWeight_a, .ref z_saidNights_a, .ref z_saidWants_a, .ref z_saidMany_a, .int z_saidLaw, .ref z_now_a, .ref z_gave_a, .ref z_at_a, .int z_ringed, .int z_lumps, .ref z_way_a, .ref z_bestWay_a, .ref z_made_a])), (z_gave_a, .inl (cI, 6, .inl z_gave))]
abbrev rm_X8_whoGave : Room := { frames := 1, cells := 0, slots := 0, locals := 21 }
set_option maxHeartbeats 4000000 in
set_option maxRecDepth 100000 in
theorem c_X8_whoGave (l : Launch) (dC : Nat → ClassId) (dI : Nat → Nat → Nat) (cI cZ cQ cW : ClassId) (z_o : Nat) (z_weight_a : Nat) (z_wants_a : Nat) (z_wantsMany_a : Nat) (z_st_a : Nat) (z_was_a : Nat) (z_images_a : Nat) (z_isKept_a : Nat) (z_told_a : Nat) (z_text_a : Nat) (z_saidWeight_a : Nat) (z_saidNights_a : Nat) (z_saidWants_a : Nat) (z_saidMany_a : Nat) (z_now_a : Nat) (z_gave_a : Nat) (z_at_a : Nat) (z_way_a : Nat) (z_bestWay_a : Nat) (z_made_a : Nat) (z_people : Int32) (z_known : Int32) (z_toldMany : Int32) (z_trace : Int64) (z_texted : Int32) (z_cursor : Int32) (z_start : Int32) (z_token : Int32) (z_number : Int32) (z_isWrong : Int32) (z_items : Int32) (z_saidPeople : Int32) (z_saidLaw : Int32) (z_ringed : Int32) (z_lumps : Int32) (z_gave : Nat → Int32) (x1 : Int32) (x2 : Int32) {ρ : Type} (N : Nat) (k : Int32 → Option ρ) (res : ρ) (h : f_X8_whoGave N z_people z_gave x1 x2 k = some res) : Ci l yX8_whoGave (WS yX8_whoGave cX8_whoGave 5 (some .int)) rm_X8_whoGave (dC, dI) (tysG cI cZ cQ cW) E0 [.ref z_o, .int x1, .int x2] (w_X8_whoGave cI cZ cQ cW z_o z_weight_a z_wants_a z_wantsMany_a z_st_a z_was_a z_images_a z_isKept_a z_told_a z_text_a z_saidWeight_a z_saidNights_a z_saidWants_a z_saidMany_a z_now_a z_gave_a z_at_a z_way_a z_bestWay_a z_made_a z_people z_known z_toldMany z_trace z_texted z_cursor z_start z_token z_number z_isWrong z_items z_saidPeople z_saidLaw z_ringed z_lumps z_gave) (fun (_ : Unit) => (w_X8_whoGave cI cZ cQ cW z_o z_weight_a z_wants_a z_wantsMany_a z_st_a z_was_a z_images_a z_isKept_a z_told_a z_text_a z_saidWeight_a z_saidNights_a z_saidWants_a z_saidMany_a z_now_a z_gave_a z_at_a z_way_a z_bestWay_a z_made_a z_people z_known z_toldMany z_trace z_texted z_cursor z_start z_token z_number z_isWrong z_items z_saidPeople z_saidLaw z_ringed z_lumps z_gave)) (fun r _ => k r = some res) := by
  refine Ci.of (cc := cX8_whoGave) (n := 5) (by decide +kernel) (Nat.le_of_ble_eq_true rfl) ?_
  intro p e s m args below meth c A ls Q B hW hE hS hl hQ
  have hx := B.1
  have hb := B.2.1
  have hl : lv_has ls 5 [(0, .ref z_o), (1, .int x1), (2, .int x2)] := hl
  unfold f_X8_whoGave at h
  refine lv_iconst (pc := 0) (v := (-1)) hx hb (tb_at tk_X8_whoGave 0 rfl) (by decide) ?_
  refine lv_istore_n (pc := 1) (lv' := [(3, .int (-1)), (0, .ref z_o), (1, .int x1), (2, .int x2)]) hx hb (tb_at tk_X8_whoGave 1 rfl) rfl hl (by decide) rfl (fun ls hl => ?_)
  refine lv_iconst (pc := 2) (v := 0) hx hb (tb_at tk_X8_whoGave 2 rfl) (by decide) ?_
  refine lv_istore (pc := 3) (lv' := [(4, .int 0), (3, .int (-1)), (0, .ref z_o), (1, .int x1), (2, .int x2)]) hx hb (tb_at tk_X8_whoGave 3 rfl) hl (by decide) rfl (fun ls hl => ?_)
  have w5 : ∀ (n : Nat), ∀ (y3_l5 : Int32) (y4_l5 : Int32) (H : Heap) (locs : List Loc) (ls : Array Slot), f_X8_whoGave_l5 x1 x2 z_people z_gave k N n y3_l5 y4_l5 = some res → PD (dC, dI) A (w_X8_whoGave cI cZ cQ cW z_o z_weight_a z_wants_a z_wantsMany_a z_st_a z_was_a z_images_a z_isKept_a z_told_a z_text_a z_saidWeight_a z_saidNights_a z_saidWants_a z_saidMany_a z_now_a z_gave_a z_at_a z_way_a z_bestWay_a z_made_a z_people z_known z_toldMany z_trace z_texted z_cursor z_start z_token z_number z_isWrong z_items z_saidPeople z_saidLaw z_ringed z_lumps z_gave) H → va_S A s.heap H locs → lv_has ls 5 [(0, .ref z_o), (1, .int x1), (2, .int x2), (3, .int y3_l5), (4, .int y4_l5)] → W p l e rm_X8_whoGave s m args below meth c H locs 0 0 Q (F0 m 5 ls []) := by
    intro n
    induction n with
    | zero => intro y3_l5 y4_l5 H locs ls h; exact no_n h
    | succ n5 ih5 =>
      intro y3_l5 y4_l5 H locs ls h hW hS hl
      rw [f_X8_whoGave_l5] at h
      refine lv_iload (pc := 5) hx hb (tb_at tk_X8_whoGave 4 rfl) (lv_at hl 4 rfl) ?_
      refine lv_aload_n (pc := 7) hx hb (tb_at tk_X8_whoGave 5 rfl) rfl (lv_at hl 0 rfl) ?_
      refine k_get (pc := 8) (v := .int z_people) (T := TX8) B inG8 hW 0 rfl rfl 0 (by decide) q_f_X8_68 rfl rfl (tb_at tk_X8_whoGave 6 rfl) ?_
      refine lv_icmp_ge (pc := 11) (tgt := 47) hx hb (tb_at tk_X8_whoGave 7 rfl) (by decide) (fun cc => ?_) (fun cc => ?_)
      · have h := it_t cc h
        refine lv_iload_n (pc := 47) hx hb (tb_at tk_X8_whoGave 24 rfl) rfl (lv_at hl 3 rfl) ?_
        exact hQ y3_l5 () _ _ _ 48 rfl h hW hS (tb_at tk_X8_whoGave 25 rfl)
      · have h := it_f cc h
        refine lv_iload_n (pc := 14) hx hb (tb_at tk_X8_whoGave 8 rfl) rfl (lv_at hl 1 rfl) ?_
        refine lv_iload (pc := 15) hx hb (tb_at tk_X8_whoGave 9 rfl) (lv_at hl 4 rfl) ?_
        refine k_call0 (pc := 17) B (k_runSi (rest := []) (host := "") B (c_X8_has l dC dI cI cZ cQ cW   x1 y4_l5 N _ res h) E0_st (fun _ _ _ => trivial) q_c_X8_has q_m_X8_113 q_t_X8_has q_n_X8 hd_X8_has ⟨rfl, rfl⟩ ⟨Nat.le_of_ble_eq_true rfl, Nat.le_of_ble_eq_true rfl⟩ hW [] rfl (by decide +kernel) rfl hl.1 rfl (Nat.le_of_ble_eq_true rfl) (tb_at tk_X8_whoGave 10 rfl) ⟨Nat.zero_le _, Nat.zero_le _⟩) hW hS (fun r17 u H locs h hW hS => ?_)
        have w39 : ∀ (H : Heap) (locs : List Loc) (ls : Array Slot), f_X8_whoGave_j39 y3_l5 y4_l5 (f_X8_whoGave_l5 x1 x2 z_people z_gave k N n5) = some res → PD (dC, dI) A (w_X8_whoGave cI cZ cQ cW z_o z_weight_a z_wants_a z_wantsMany_a z_st_a z_was_a z_images_a z_isKept_a z_told_a z_text_a z_saidWeight_a z_saidNights_a z_saidWants_a z_saidMany_a z_now_a z_gave_a z_at_a z_way_a z_bestWay_a z_made_a z_people z_known z_toldMany z_trace z_texted z_cursor z_start z_token z_number z_isWrong z_items z_saidPeople z_saidLaw z_ringed z_lumps z_gave) H → va_S A s.heap H locs → lv_has ls 5 [(0, .ref z_o), (1, .int x1), (2, .int x2), (3, .int y3_l5), (4, .int y4_l5)] → W p l e rm_X8_whoGave s m args below meth c H locs 0 0 Q (F0 m 39 ls []) := by
          intro H locs ls h hW hS hl
          unfold f_X8_whoGave_j39 at h
          refine lv_iload_n (pc := 39) hx hb (tb_at tk_X8_whoGave 20 rfl) rfl (lv_at hl 3 rfl) ?_
          refine lv_istore_n (pc := 40) (lv' := [(3, .int y3_l5), (0, .ref z_o), (1, .int x1), (2, .int x2), (4, .int y4_l5)]) hx hb (tb_at tk_X8_whoGave 21 rfl) rfl hl (by decide) rfl (fun ls hl => ?_)
          refine lv_iinc (pc := 41) (v := y4_l5 + 1) (lv' := [(4, .int (y4_l5 + 1)), (3, .int y3_l5), (0, .ref z_o), (1, .int x1), (2, .int x2)]) hx hb (tb_at tk_X8_whoGave 22 rfl) hl (k := 4) rfl rfl (by decide) rfl (fun ls hl => ?_)
          refine lv_goto (pc := 44) (tgt := 5) hx hb (tb_at tk_X8_whoGave 23 rfl) (by decide) ?_
          exact ih5 y3_l5 (y4_l5 + 1) _ _ _ h hW hS (lv_sub hl [2, 3, 4, 1, 0] rfl)
        refine lv_if_eq (pc := 20) (tgt := 39) hx hb (tb_at tk_X8_whoGave 11 rfl) (by decide) (fun cc => ?_) (fun cc => ?_)
        · have h := it_t cc h
          exact w39  _ _ _ h hW hS (lv_sub hl [0, 1, 2, 3, 4] rfl)
        · have h := it_f cc h
          refine lv_aload_n (pc := 23) hx hb (tb_at tk_X8_whoGave 12 rfl) rfl (lv_at hl 0 rfl) ?_
          refine k_get (pc := 24) (v := .ref z_gave_a) (T := TX8) B inG8 hW 0 rfl rfl 27 (by decide) q_f_X8_53 rfl rfl (tb_at tk_X8_whoGave 13 rfl) ?_
          refine lv_iload (pc := 27) hx hb (tb_at tk_X8_whoGave 14 rfl) (lv_at hl 4 rfl) ?_
          have ii := ivi_in (ck_l h)
          have h := ck_r h
          refine k_iald (pc := 29) B hW 1 0 rfl rfl ii (tb_at tk_X8_whoGave 15 rfl) ?_
          refine lv_iload_n (pc := 30) hx hb (tb_at tk_X8_whoGave 16 rfl) rfl (lv_at hl 2 rfl) ?_
          refine lv_icmp_ne (pc := 31) (tgt := 39) hx hb (tb_at tk_X8_whoGave 17 rfl) (by decide) (fun cc => ?_) (fun cc => ?_)
          · have h := it_f cc h
            exact w39  _ _ _ h hW hS (lv_sub hl [0, 1, 2, 3, 4] rfl)
          · have h := it_t cc h
            refine lv_iload (pc := 34) hx hb (tb_at tk_X8_whoGave 18 rfl) (lv_at hl 4 rfl) ?_
            refine lv_goto (pc := 36) (tgt := 40) hx hb (tb_at tk_X8_whoGave 19 rfl) (by decide) ?_
            refine lv_istore_n (pc := 40) (lv' := [(3, .int y4_l5), (0, .ref z_o), (1, .int x1), (2, .int x2), (4, .int y4_l5)]) hx hb (tb_at tk_X8_whoGave 21 rfl) rfl hl (by decide) rfl (fun ls hl => ?_)
            refine lv_iinc (pc := 41) (v := y4_l5 + 1) (lv' := [(4, .int (y4_l5 + 1)), (3, .int y4_l5), (0, .ref z_o), (1, .int x1), (2, .int x2)]) hx hb (tb_at tk_X8_whoGave 22 rfl) hl (k := 4) rfl rfl (by decide) rfl (fun ls hl => ?_)
            refine lv_goto (pc := 44) (tgt := 5) hx hb (tb_at tk_X8_whoGave 23 rfl) (by decide) ?_
            exact ih5 y4_l5 (y4_l5 + 1) _ _ _ h hW hS (lv_sub hl [2, 3, 4, 1, 0] rfl)
  exact w5 N (-1) 0 _ _ _ h hW hS (lv_sub hl [2, 3, 4, 1, 0] rfl)
def f_X8_behind {ρ : Type} (N : Nat) (z_weight : Nat → Int32) (z_gave : Nat → Int32) (x1 : Int32) (x2 : Int32) (x3 : Int32) (k : Int32 → Option ρ) : Option ρ := ck (ivi x2 6) (ck (ivi x1 6) (ck (ivi (z_gave (x1).toNatClampNeg) 6) (if x3 = 0 then (k 0) else (if x3 = 1 then (if 0 ≤ ((z_weight (x2).toNatClampNeg) - (z_weight (z_gave (x1).toNatClampNeg).toNatClampNeg)) then (k ((z_weight (x2).toNatClampNeg) - (z_weight (z_gave (x1).toNatClampNeg).toNatClampNeg))) else (k (-((z_weight (x2).toNatClampNeg) - (z_weight (z_gave (x1).toNatClampNeg).toNatClampNeg))))) else (k x2)))))
abbrev w_X8_behind (cI cZ cQ cW : ClassId) (z_o : Nat) (z_weight_a : Nat) (z_wants_a : Nat) (z_wantsMany_a : Nat) (z_st_a : Nat) (z_was_a : Nat) (z_images_a : Nat) (z_isKept_a : Nat) (z_told_a : Nat) (z_text_a : Nat) (z_saidWeight_a : Nat) (z_saidNights_a : Nat) (z_saidWants_a : Nat) (z_saidMany_a : Nat) (z_now_a : Nat) (z_gave_a : Nat) (z_at_a : Nat) (z_way_a : Nat) (z_bestWay_a : Nat) (z_made_a : Nat) (z_people : Int32) (z_known : Int32) (z_toldMany : Int32) (z_trace : Int64) (z_texted : Int32) (z_cursor : Int32) (z_start : Int32) (z_token : Int32) (z_number : Int32) (z_isWrong : Int32) (z_items : Int32) (z_saidPeople : Int32) (z_saidLaw : Int32) (z_ringed : Int32) (z_lumps : Int32) (z_weight : Nat → Int32) (z_gave : Nat → Int32) : va_W := [(z_o, .inr (8, [.int z_people, .ref z_weight_a, .ref z_wants_a, .ref z_wantsMany_a, .ref z_st_a, .ref z_was_a, .int z_known, .ref z_images_a, .ref z_isKept_a, .int z_toldMany, .ref z_told_a, .long z_trace, .ref z_text_a, .int z_texted, .int z_cursor, .int z_start, .int z_token, .int z_number, .int z_isWrong, .int z_items, .int z_saidPeople, .ref z_saidWeight_a, .ref z_saidNights_a, .ref z_saidWants_a, .ref z_saidMany_a, .int z_saidLaw, .ref z_now_a, .ref z_gave_a, .ref z_at_a, .int z_ringed, .int z_lumps, .ref z_way_a, .ref z_bestWay_a, .ref z_made_a])), (z_weight_a, .inl (cI, 6, .inl z_weight)), (z_gave_a, .inl (cI, 6, .inl z_gave))]
abbrev rm_X8_behind : Room := { frames := 0, cells := 0, slots := 0, locals := 0 }
set_option maxHeartbeats 4000000 in
set_option maxRecDepth 100000 in
theorem c_X8_behind (l : Launch) (dC : Nat → ClassId) (dI : Nat → Nat → Nat) (cI cZ cQ cW : ClassId) (z_o : Nat) (z_weight_a : Nat) (z_wants_a : Nat) (z_wantsMany_a : Nat) (z_st_a : Nat) (z_was_a : Nat) (z_images_a : Nat) (z_isKept_a : Nat) (z_told_a : Nat) (z_text_a : Nat) (z_saidWeight_a : Nat) (z_saidNights_a : Nat) (z_saidWants_a : Nat) (z_saidMany_a : Nat) (z_now_a : Nat) (z_gave_a : Nat) (z_at_a : Nat) (z_way_a : Nat) (z_bestWay_a : Nat) (z_made_a : Nat) (z_people : Int32) (z_known : Int32) (z_toldMany : Int32) (z_trace : Int64) (z_texted : Int32) (z_cursor : Int32) (z_start : Int32) (z_token : Int32) (z_number : Int32) (z_isWrong : Int32) (z_items : Int32) (z_saidPeople : Int32) (z_saidLaw : Int32) (z_ringed : Int32) (z_lumps : Int32) (z_weight : Nat → Int32) (z_gave : Nat → Int32) (x1 : Int32) (x2 : Int32) (x3 : Int32) {ρ : Type} (N : Nat) (k : Int32 → Option ρ) (res : ρ) (h : f_X8_behind N z_weight z_gave x1 x2 x3 k = some res) : Ci l yX8_behind (WS yX8_behind cX8_behind 5 (some .int)) rm_X8_behind (dC, dI) (tysG cI cZ cQ cW) E0 [.ref z_o, .int x1, .int x2, .int x3] (w_X8_behind cI cZ cQ cW z_o z_weight_a z_wants_a z_wantsMany_a z_st_a z_was_a z_images_a z_isKept_a z_told_a z_text_a z_saidWeight_a z_saidNights_a z_saidWants_a z_saidMany_a z_now_a z_gave_a z_at_a z_way_a z_bestWay_a z_made_a z_people z_known z_toldMany z_trace z_texted z_cursor z_start z_token z_number z_isWrong z_items z_saidPeople z_saidLaw z_ringed z_lumps z_weight z_gave) (fun (_ : Unit) => (w_X8_behind cI cZ cQ cW z_o z_weight_a z_wants_a z_wantsMany_a z_st_a z_was_a z_images_a z_isKept_a z_told_a z_text_a z_saidWeight_a z_saidNights_a z_saidWants_a z_saidMany_a z_now_a z_gave_a z_at_a z_way_a z_bestWay_a z_made_a z_people z_known z_toldMany z_trace z_texted z_cursor z_start z_token z_number z_isWrong z_items z_saidPeople z_saidLaw z_ringed z_lumps z_weight z_gave)) (fun r _ => k r = some res) := by
  refine Ci.of (cc := cX8_behind) (n := 5) (by decide +kernel) (Nat.le_of_ble_eq_true rfl) ?_
  intro p e s m args below meth c A ls Q B hW hE hS hl hQ
  have hx := B.1
  have hb := B.2.1
  have hl : lv_has ls 5 [(0, .ref z_o), (1, .int x1), (2, .int x2), (3, .int x3)] := hl
  unfold f_X8_behind at h
  refine lv_aload_n (pc := 0) hx hb (tb_at tk_X8_behind 0 rfl) rfl (lv_at hl 0 rfl) ?_
  refine k_get (pc := 1) (v := .ref z_weight_a) (T := TX8) B inG8 hW 0 rfl rfl 1 (by decide) q_f_X8_7 rfl rfl (tb_at tk_X8_behind 1 rfl) ?_
  refine lv_iload_n (pc := 4) hx hb (tb_at tk_X8_behind 2 rfl) rfl (lv_at hl 2 rfl) ?_
  have ii := ivi_in (ck_l h)
  have h := ck_r h
  refine k_iald (pc := 5) B hW 1 0 rfl rfl ii (tb_at tk_X8_behind 3 rfl) ?_
  refine lv_aload_n (pc := 6) hx hb (tb_at tk_X8_behind 4 rfl) rfl (lv_at hl 0 rfl) ?_
  refine k_get (pc := 7) (v := .ref z_weight_a) (T := TX8) B inG8 hW 0 rfl rfl 1 (by decide) q_f_X8_7 rfl rfl (tb_at tk_X8_behind 5 rfl) ?_
  refine lv_aload_n (pc := 10) hx hb (tb_at tk_X8_behind 6 rfl) rfl (lv_at hl 0 rfl) ?_
  refine k_get (pc := 11) (v := .ref z_gave_a) (T := TX8) B inG8 hW 0 rfl rfl 27 (by decide) q_f_X8_53 rfl rfl (tb_at tk_X8_behind 7 rfl) ?_
  refine lv_iload_n (pc := 14) hx hb (tb_at tk_X8_behind 8 rfl) rfl (lv_at hl 1 rfl) ?_
  have ii := ivi_in (ck_l h)
  have h := ck_r h
  refine k_iald (pc := 15) B hW 2 0 rfl rfl ii (tb_at tk_X8_behind 9 rfl) ?_
  have ii := ivi_in (ck_l h)
  have h := ck_r h
  refine k_iald (pc := 16) B hW 1 0 rfl rfl ii (tb_at tk_X8_behind 10 rfl) ?_
  refine lv_isub (pc := 17) hx hb (tb_at tk_X8_behind 11 rfl) ?_
  refine lv_istore (pc := 18) (lv' := [(4, .int ((z_weight (x2).toNatClampNeg) - (z_weight (z_gave (x1).toNatClampNeg).toNatClampNeg))), (0, .ref z_o), (1, .int x1), (2, .int x2), (3, .int x3)]) hx hb (tb_at tk_X8_behind 12 rfl) hl (by decide) rfl (fun ls hl => ?_)
  refine lv_iload_n (pc := 20) hx hb (tb_at tk_X8_behind 13 rfl) rfl (lv_at hl 4 rfl) ?_
  refine lv_if_ne (pc := 21) (tgt := 28) hx hb (tb_at tk_X8_behind 14 rfl) (by decide) (fun cc => ?_) (fun cc => ?_)
  · have h := it_f cc h
    refine lv_iload_n (pc := 28) hx hb (tb_at tk_X8_behind 17 rfl) rfl (lv_at hl 4 rfl) ?_
    refine lv_iconst (pc := 29) (v := 1) hx hb (tb_at tk_X8_behind 18 rfl) (by decide) ?_
    refine lv_icmp_ne (pc := 30) (tgt := 49) hx hb (tb_at tk_X8_behind 19 rfl) (by decide) (fun cc => ?_) (fun cc => ?_)
    · have h := it_f cc h
      refine lv_iload_n (pc := 49) hx hb (tb_at tk_X8_behind 27 rfl) rfl (lv_at hl 3 rfl) ?_
      exact hQ x2 () _ _ _ 50 rfl h hW hS (tb_at tk_X8_behind 28 rfl)
    · have h := it_t cc h
      refine lv_iload (pc := 33) hx hb (tb_at tk_X8_behind 20 rfl) (lv_at hl 0 rfl) ?_
      refine lv_if_ge (pc := 35) (tgt := 44) hx hb (tb_at tk_X8_behind 21 rfl) (by decide) (fun cc => ?_) (fun cc => ?_)
      · have h := it_t cc h
        refine lv_iload (pc := 44) hx hb (tb_at tk_X8_behind 25 rfl) (lv_at hl 0 rfl) ?_
        refine lv_goto (pc := 46) (tgt := 50) hx hb (tb_at tk_X8_behind 26 rfl) (by decide) ?_
        exact hQ ((z_weight (x2).toNatClampNeg) - (z_weight (z_gave (x1).toNatClampNeg).toNatClampNeg)) () _ _ _ 50 rfl h hW hS (tb_at tk_X8_behind 28 rfl)
      · have h := it_f cc h
        refine lv_iload (pc := 38) hx hb (tb_at tk_X8_behind 22 rfl) (lv_at hl 0 rfl) ?_
        refine lv_ineg (pc := 40) hx hb (tb_at tk_X8_behind 23 rfl) ?_
        refine lv_goto (pc := 41) (tgt := 50) hx hb (tb_at tk_X8_behind 24 rfl) (by decide) ?_
        exact hQ (-((z_weight (x2).toNatClampNeg) - (z_weight (z_gave (x1).toNatClampNeg).toNatClampNeg))) () _ _ _ 50 rfl h hW hS (tb_at tk_X8_behind 28 rfl)
  · have h := it_t cc h
    refine lv_iconst (pc := 24) (v := 0) hx hb (tb_at tk_X8_behind 15 rfl) (by decide) ?_
    refine lv_goto (pc := 25) (tgt := 50) hx hb (tb_at tk_X8_behind 16 rfl) (by decide) ?_
    exact hQ 0 () _ _ _ 50 rfl h hW hS (tb_at tk_X8_behind 28 rfl)
def f_X8_pointsAt_j88 {ρ : Type} (y5_l9 : Int32) (y6_l9 : Int32) (r47 : Int32) (s0_j74 : Int32) (kb9 : Int32 → Int32 → Int32 → Option ρ) (s0_j88 : Int32) : Option ρ := if s0_j74 = 0 then (kb9 s0_j88 y5_l9 (y6_l9 + 1)) else (kb9 s0_j88 r47 (y6_l9 + 1))
def f_X8_pointsAt_j74 {ρ : Type} (y4_l9 : Int32) (y5_l9 : Int32) (y6_l9 : Int32) (r37 : Int32) (r47 : Int32) (kb9 : Int32 → Int32 → Int32 → Option ρ) (s0_j74 : Int32) : Option ρ := if s0_j74 = 0 then (f_X8_pointsAt_j88 y5_l9 y6_l9 r47 s0_j74 kb9 y4_l9) else (f_X8_pointsAt_j88 y5_l9 y6_l9 r47 s0_j74 kb9 r37)
def f_X8_pointsAt_j73 {ρ : Type} (y4_l9 : Int32) (y5_l9 : Int32) (y6_l9 : Int32) (r37 : Int32) (r47 : Int32) (kb9 : Int32 → Int32 → Int32 → Option ρ) : Option ρ := f_X8_pointsAt_j74 y4_l9 y5_l9 y6_l9 r37 r47 kb9 0
def f_X8_pointsAt_j69 {ρ : Type} (y4_l9 : Int32) (y5_l9 : Int32) (y6_l9 : Int32) (r37 : Int32) (r47 : Int32) (kb9 : Int32 → Int32 → Int32 → Option ρ) : Option ρ := f_X8_pointsAt_j74 y4_l9 y5_l9 y6_l9 r37 r47 kb9 1
def f_X8_pointsAt_l9 {ρ : Type} (x1 : Int32) (x2 : Int32) (x3 : Int32) (z_people : Int32) (z_wantsMany : Nat → Int32) (z_wants : Nat → Int32) (z_gave : Nat → Int32) (z_weight : Nat → Int32) (k : Int32 → Option ρ) (N : Nat) : Nat → Int32 → Int32 → Int32 → Option ρ
  | 0, _, _, _ => none
  | n9 + 1, y4_l9, y5_l9, y6_l9 => ck (ivi x1 6) (if (z_wantsMany (x1).toNatClampNeg) ≤ y6_l9 then (k y4_l9) else (ck (ivi (((4 : Int32) * x1) + y6_l9) 24) (f_X8_whoGave N z_people z_gave x2 (z_wants (((4 : Int32) * x1) + y6_l9).toNatClampNeg) (fun r37 => f_X8_behind N z_weight z_gave x1 (z_wants (((4 : Int32) * x1) + y6_l9).toNatClampNeg) x3 (fun r47 => if r37 < 0 then (f_X8_pointsAt_j73 y4_l9 y5_l9 y6_l9 r37 r47 (f_X8_pointsAt_l9 x1 x2 x3 z_people z_wantsMany z_wants z_gave z_weight k N n9) ) else (if y4_l9 < 0 then (f_X8_pointsAt_j69 y4_l9 y5_l9 y6_l9 r37 r47 (f_X8_pointsAt_l9 x1 x2 x3 z_people z_wantsMany z_wants z_gave z_weight k N n9) ) else (if y5_l9 ≤ r47 then (f_X8_pointsAt_j73 y4_l9 y5_l9 y6_l9 r37 r47 (f_X8_pointsAt_l9 x1 x2 x3 z_people z_wantsMany z_wants z_gave z_weight k N n9) ) else (f_X8_pointsAt_j69 y4_l9 y5_l9 y6_l9 r37 r47 (f_X8_pointsAt_l9 x1 x2 x3 z_people z_wantsMany z_wants z_gave z_weight k N n9) ))))))))
def f_X8_pointsAt {ρ : Type} (N : Nat) (z_people : Int32) (z_wantsMany : Nat → Int32) (z_wants : Nat → Int32) (z_gave : Nat → Int32) (z_weight : Nat → Int32) (x1 : Int32) (x2 : Int32) (x3 : Int32) (k : Int32 → Option ρ) : Option ρ := f_X8_pointsAt_l9 x1 x2 x3 z_people z_wantsMany z_wants z_gave z_weight k N N (-1) 0 0
abbrev w_X8_pointsAt (cI cZ cQ cW : ClassId) (z_o : Nat) (z_weight_a : Nat) (z_wants_a : Nat) (z_wantsMany_a : Nat) (z_st_a : Nat) (z_was_a : Nat) (z_images_a : Nat) (z_isKept_a : Nat) (z_told_a : Nat) (z_text_a : Nat) (z_saidWeight_a : Nat) (z_saidNights_a : Nat) (z_saidWants_a : Nat) (z_saidMany_a : Nat) (z_now_a : Nat) (z_gave_a : Nat) (z_at_a : Nat) (z_way_a : Nat) (z_bestWay_a : Nat) (z_made_a : Nat) (z_people : Int32) (z_known : Int32) (z_toldMany : Int32) (z_trace : Int64) (z_texted : Int32) (z_cursor : Int32) (z_start : Int32) (z_token : Int32) (z_number : Int32) (z_isWrong : Int32) (z_items : Int32) (z_saidPeople : Int32) (z_saidLaw : Int32) (z_ringed : Int32) (z_lumps : Int32) (z_wantsMany : Nat → Int32) (z_wants : Nat → Int32) (z_gave : Nat → Int32) (z_weight : Nat → Int32) : va_W := [(z_o, .inr (8, [.int z_people, .ref z_weight_a, .ref z_wants_a, .ref z_wantsMany_a, .ref z_st_a, .ref z_was_a, .int z_known, .ref z_images_a, .ref z_isKept_a, .int z_toldMany, .ref z_told_a, .long z_trace, .ref z_text_a, .int z_texted, .int z_cursor, .int z_start, .int z_token, .int z_number, .int z_isWrong, .int z_items, .int z_saidPeople, .ref z_saidWeight_a, .ref z_saidNights_a, .ref z_saidWants_a, .ref z_saidMany_a, .int z_saidLaw, .ref z_now_a, .ref z_gave_a, .ref z_at_a, .int z_ringed, .int z_lumps, .ref z_way_a, .ref z_bestWay_a, .ref z_made_a])), (z_wantsMany_a, .inl (cI, 6, .inl z_wantsMany)), (z_wants_a, .inl (cI, 24, .inl z_wants)), (z_gave_a, .inl (cI, 6, .inl z_gave)), (z_weight_a, .inl (cI, 6, .inl z_weight))]
abbrev rm_X8_pointsAt : Room := { frames := 2, cells := 0, slots := 0, locals := 45 }
set_option maxHeartbeats 4000000 in
set_option maxRecDepth 100000 in
theorem c_X8_pointsAt (l : Launch) (dC : Nat → ClassId) (dI : Nat → Nat → Nat) (cI cZ cQ cW : ClassId) (z_o : Nat) (z_weight_a : Nat) (z_wants_a : Nat) (z_wantsMany_a : Nat) (z_st_a : Nat) (z_was_a : Nat) (z_images_a : Nat) (z_isKept_a : Nat) (z_told_a : Nat) (z_text_a : Nat) (z_saidWeight_a : Nat) (z_saidNights_a : Nat) (z_saidWants_a : Nat) (z_saidMany_a : Nat) (z_now_a : Nat) (z_gave_a : Nat) (z_at_a : Nat) (z_way_a : Nat) (z_bestWay_a : Nat) (z_made_a : Nat) (z_people : Int32) (z_known : Int32) (z_toldMany : Int32) (z_trace : Int64) (z_texted : Int32) (z_cursor : Int32) (z_start : Int32) (z_token : Int32) (z_number : Int32) (z_isWrong : Int32) (z_items : Int32) (z_saidPeople : Int32) (z_saidLaw : Int32) (z_ringed : Int32) (z_lumps : Int32) (z_wantsMany : Nat → Int32) (z_wants : Nat → Int32) (z_gave : Nat → Int32) (z_weight : Nat → Int32) (x1 : Int32) (x2 : Int32) (x3 : Int32) {ρ : Type} (N : Nat) (k : Int32 → Option ρ) (res : ρ) (h : f_X8_pointsAt N z_people z_wantsMany z_wants z_gave z_weight x1 x2 x3 k = some res) : Ci l yX8_pointsAt (WS yX8_pointsAt cX8_pointsAt 11 (some .int)) rm_X8_pointsAt (dC, dI) (tysG cI cZ cQ cW) E0 [.ref z_o, .int x1, .int x2, .int x3] (w_X8_pointsAt cI cZ cQ cW z_o z_weight_a z_wants_a z_wantsMany_a z_st_a z_was_a z_images_a z_isKept_a z_told_a z_text_a z_saidWeight_a z_saidNights_a z_saidWants_a z_saidMany_a z_now_a z_gave_a z_at_a z_way_a z_bestWay_a z_made_a z_people z_known z_toldMany z_trace z_texted z_cursor z_start z_token z_number z_isWrong z_items z_saidPeople z_saidLaw z_ringed z_lumps z_wantsMany z_wants z_gave z_weight) (fun (_ : Unit) => (w_X8_pointsAt cI cZ cQ cW z_o z_weight_a z_wants_a z_wantsMany_a z_st_a z_was_a z_images_a z_isKept_a z_told_a z_text_a z_saidWeight_a z_saidNights_a z_saidWants_a z_saidMany_a z_now_a z_gave_a z_at_a z_way_a z_bestWay_a z_made_a z_people z_known z_toldMany z_trace z_texted z_cursor z_start z_token z_number z_isWrong z_items z_saidPeople z_saidLaw z_ringed z_lumps z_wantsMany z_wants z_gave z_weight)) (fun r _ => k r = some res) := by
  refine Ci.of (cc := cX8_pointsAt) (n := 11) (by decide +kernel) (Nat.le_of_ble_eq_true rfl) ?_
  intro p e s m args below meth c A ls Q B hW hE hS hl hQ
  have hx := B.1
  have hb := B.2.1
  have hl : lv_has ls 11 [(0, .ref z_o), (1, .int x1), (2, .int x2), (3, .int x3)] := hl
  unfold f_X8_pointsAt at h
  refine lv_iconst (pc := 0) (v := (-1)) hx hb (tb_at tk_X8_pointsAt 0 rfl) (by decide) ?_
  refine lv_istore (pc := 1) (lv' := [(4, .int (-1)), (0, .ref z_o), (1, .int x1), (2, .int x2), (3, .int x3)]) hx hb (tb_at tk_X8_pointsAt 1 rfl) hl (by decide) rfl (fun ls hl => ?_)
  refine lv_iconst (pc := 3) (v := 0) hx hb (tb_at tk_X8_pointsAt 2 rfl) (by decide) ?_
  refine lv_istore (pc := 4) (lv' := [(5, .int 0), (4, .int (-1)), (0, .ref z_o), (1, .int x1), (2, .int x2), (3, .int x3)]) hx hb (tb_at tk_X8_pointsAt 3 rfl) hl (by decide) rfl (fun ls hl => ?_)
  refine lv_iconst (pc := 6) (v := 0) hx hb (tb_at tk_X8_pointsAt 4 rfl) (by decide) ?_
  refine lv_istore (pc := 7) (lv' := [(6, .int 0), (5, .int 0), (4, .int (-1)), (0, .ref z_o), (1, .int x1), (2, .int x2), (3, .int x3)]) hx hb (tb_at tk_X8_pointsAt 5 rfl) hl (by decide) rfl (fun ls hl => ?_)
  have w9 : ∀ (n : Nat), ∀ (y4_l9 : Int32) (y5_l9 : Int32) (y6_l9 : Int32) (H : Heap) (locs : List Loc) (ls : Array Slot), f_X8_pointsAt_l9 x1 x2 x3 z_people z_wantsMany z_wants z_gave z_weight k N n y4_l9 y5_l9 y6_l9 = some res → PD (dC, dI) A (w_X8_pointsAt cI cZ cQ cW z_o z_weight_a z_wants_a z_wantsMany_a z_st_a z_was_a z_images_a z_isKept_a z_told_a z_text_a z_saidWeight_a z_saidNights_a z_saidWants_a z_saidMany_a z_now_a z_gave_a z_at_a z_way_a z_bestWay_a z_made_a z_people z_known z_toldMany z_trace z_texted z_cursor z_start z_token z_number z_isWrong z_items z_saidPeople z_saidLaw z_ringed z_lumps z_wantsMany z_wants z_gave z_weight) H → va_S A s.heap H locs → lv_has ls 11 [(0, .ref z_o), (1, .int x1), (2, .int x2), (3, .int x3), (4, .int y4_l9), (5, .int y5_l9), (6, .int y6_l9)] → W p l e rm_X8_pointsAt s m args below meth c H locs 0 0 Q (F0 m 9 ls []) := by
    intro n
    induction n with
    | zero => intro y4_l9 y5_l9 y6_l9 H locs ls h; exact no_n h
    | succ n9 ih9 =>
      intro y4_l9 y5_l9 y6_l9 H locs ls h hW hS hl
      rw [f_X8_pointsAt_l9] at h
      refine lv_iload (pc := 9) hx hb (tb_at tk_X8_pointsAt 6 rfl) (lv_at hl 6 rfl) ?_
      refine lv_aload_n (pc := 11) hx hb (tb_at tk_X8_pointsAt 7 rfl) rfl (lv_at hl 0 rfl) ?_
      refine k_get (pc := 12) (v := .ref z_wantsMany_a) (T := TX8) B inG8 hW 0 rfl rfl 3 (by decide) q_f_X8_16 rfl rfl (tb_at tk_X8_pointsAt 8 rfl) ?_
      refine lv_iload_n (pc := 15) hx hb (tb_at tk_X8_pointsAt 9 rfl) rfl (lv_at hl 1 rfl) ?_
      have ii := ivi_in (ck_l h)
      have h := ck_r h
      refine k_iald (pc := 16) B hW 1 0 rfl rfl ii (tb_at tk_X8_pointsAt 10 rfl) ?_
      refine lv_icmp_ge (pc := 17) (tgt := 110) hx hb (tb_at tk_X8_pointsAt 11 rfl) (by decide) (fun cc => ?_) (fun cc => ?_)
      · have h := it_t cc h
        refine lv_iload (pc := 110) hx hb (tb_at tk_X8_pointsAt 57 rfl) (lv_at hl 4 rfl) ?_
        exact hQ y4_l9 () _ _ _ 112 rfl h hW hS (tb_at tk_X8_pointsAt 58 rfl)
      · have h := it_f cc h
        refine lv_aload_n (pc := 20) hx hb (tb_at tk_X8_pointsAt 12 rfl) rfl (lv_at hl 0 rfl) ?_
        refine k_get (pc := 21) (v := .ref z_wants_a) (T := TX8) B inG8 hW 0 rfl rfl 2 (by decide) q_f_X8_13 rfl rfl (tb_at tk_X8_pointsAt 13 rfl) ?_
        refine lv_iconst (pc := 24) (v := 4) hx hb (tb_at tk_X8_pointsAt 14 rfl) (by decide) ?_
        refine lv_iload_n (pc := 25) hx hb (tb_at tk_X8_pointsAt 15 rfl) rfl (lv_at hl 1 rfl) ?_
        refine lv_imul (pc := 26) hx hb (tb_at tk_X8_pointsAt 16 rfl) ?_
        refine lv_iload (pc := 27) hx hb (tb_at tk_X8_pointsAt 17 rfl) (lv_at hl 6 rfl) ?_
        refine lv_iadd (pc := 29) hx hb (tb_at tk_X8_pointsAt 18 rfl) ?_
        have ii := ivi_in (ck_l h)
        have h := ck_r h
        refine k_iald (pc := 30) B hW 2 0 rfl rfl ii (tb_at tk_X8_pointsAt 19 rfl) ?_
        refine lv_istore (pc := 31) (lv' := [(7, .int (z_wants (((4 : Int32) * x1) + y6_l9).toNatClampNeg)), (0, .ref z_o), (1, .int x1), (2, .int x2), (3, .int x3), (4, .int y4_l9), (5, .int y5_l9), (6, .int y6_l9)]) hx hb (tb_at tk_X8_pointsAt 20 rfl) hl (by decide) rfl (fun ls hl => ?_)
        refine lv_aload_n (pc := 33) hx hb (tb_at tk_X8_pointsAt 21 rfl) rfl (lv_at hl 1 rfl) ?_
        refine lv_iload_n (pc := 34) hx hb (tb_at tk_X8_pointsAt 22 rfl) rfl (lv_at hl 3 rfl) ?_
        refine lv_iload (pc := 35) hx hb (tb_at tk_X8_pointsAt 23 rfl) (lv_at hl 0 rfl) ?_
        refine k_calli (pc := 37) B (k_runVi (rest := []) (C := RX8) B (c_X8_whoGave l dC dI cI cZ cQ cW z_o z_weight_a z_wants_a z_wantsMany_a z_st_a z_was_a z_images_a z_isKept_a z_told_a z_text_a z_saidWeight_a z_saidNights_a z_saidWants_a z_saidMany_a z_now_a z_gave_a z_at_a z_way_a z_bestWay_a z_made_a z_people z_known z_toldMany z_trace z_texted z_cursor z_start z_token z_number z_isWrong z_items z_saidPeople z_saidLaw z_ringed z_lumps z_gave x2 (z_wants (((4 : Int32) * x1) + y6_l9).toNatClampNeg) N _ res h) E0_st (fun _ _ _ => trivial) q_c_X8_whoGave q_m_X8_145 q_i_X8_whoGave q_s_X8_whoGave q_n_X8 hd_X8_whoGave ⟨rfl, rfl⟩ ⟨Nat.le_of_ble_eq_true rfl, Nat.le_of_ble_eq_true rfl⟩ hW [0, 3] rfl (by decide +kernel) (q0 := 0) (ci := 8) rfl rfl rfl hl.1 rfl (Nat.le_of_ble_eq_true rfl) (tb_at tk_X8_pointsAt 24 rfl) ⟨Nat.zero_le _, Nat.zero_le _⟩) hW hS [0, 3] rfl [z_o, z_gave_a] rfl (fun _ => rfl) [some 0, none, none, some 1, none] (by decide +kernel) (fun _ => (w_X8_pointsAt cI cZ cQ cW z_o z_weight_a z_wants_a z_wantsMany_a z_st_a z_was_a z_images_a z_isKept_a z_told_a z_text_a z_saidWeight_a z_saidNights_a z_saidWants_a z_saidMany_a z_now_a z_gave_a z_at_a z_way_a z_bestWay_a z_made_a z_people z_known z_toldMany z_trace z_texted z_cursor z_start z_token z_number z_isWrong z_items z_saidPeople z_saidLaw z_ringed z_lumps z_wantsMany z_wants z_gave z_weight)) (fun _ => rfl) (fun r37 u H locs h hW hS => ?_)
        have hW : PD (dC, dI) A (w_X8_pointsAt cI cZ cQ cW z_o z_weight_a z_wants_a z_wantsMany_a z_st_a z_was_a z_images_a z_isKept_a z_told_a z_text_a z_saidWeight_a z_saidNights_a z_saidWants_a z_saidMany_a z_now_a z_gave_a z_at_a z_way_a z_bestWay_a z_made_a z_people z_known z_toldMany z_trace z_texted z_cursor z_start z_token z_number z_isWrong z_items z_saidPeople z_saidLaw z_ringed z_lumps z_wantsMany z_wants z_gave z_weight) H := hW
        refine lv_istore (pc := 40) (lv' := [(8, .int r37), (7, .int (z_wants (((4 : Int32) * x1) + y6_l9).toNatClampNeg)), (0, .ref z_o), (1, .int x1), (2, .int x2), (3, .int x3), (4, .int y4_l9), (5, .int y5_l9), (6, .int y6_l9)]) hx hb (tb_at tk_X8_pointsAt 25 rfl) hl (by decide) rfl (fun ls hl => ?_)
        refine lv_aload_n (pc := 42) hx hb (tb_at tk_X8_pointsAt 26 rfl) rfl (lv_at hl 2 rfl) ?_
        refine lv_iload_n (pc := 43) hx hb (tb_at tk_X8_pointsAt 27 rfl) rfl (lv_at hl 3 rfl) ?_
        refine lv_iload (pc := 44) hx hb (tb_at tk_X8_pointsAt 28 rfl) (lv_at hl 1 rfl) ?_
        refine lv_iload_n (pc := 46) hx hb (tb_at tk_X8_pointsAt 29 rfl) rfl (lv_at hl 5 rfl) ?_
        refine k_calli (pc := 47) B (k_runVi (rest := []) (C := RX8) B (c_X8_behind l dC dI cI cZ cQ cW z_o z_weight_a z_wants_a z_wantsMany_a z_st_a z_was_a z_images_a z_isKept_a z_told_a z_text_a z_saidWeight_a z_saidNights_a z_saidWants_a z_saidMany_a z_now_a z_gave_a z_at_a z_way_a z_bestWay_a z_made_a z_people z_known z_toldMany z_trace z_texted z_cursor z_start z_token z_number z_isWrong z_items z_saidPeople z_saidLaw z_ringed z_lumps z_weight z_gave x1 (z_wants (((4 : Int32) * x1) + y6_l9).toNatClampNeg) x3 N _ res h) E0_st (fun _ _ _ => trivial) q_c_X8_behind q_m_X8_148 q_i_X8_behind q_s_X8_behind q_n_X8 hd_X8_behind ⟨rfl, rfl⟩ ⟨Nat.le_of_ble_eq_true rfl, Nat.le_of_ble_eq_true rfl⟩ hW [0, 4, 3] rfl (by decide +kernel) (q0 := 0) (ci := 8) rfl rfl rfl hl.1 rfl (Nat.le_of_ble_eq_true rfl) (tb_at tk_X8_pointsAt 30 rfl) ⟨Nat.zero_le _, Nat.zero_le _⟩) hW hS [0, 4, 3] rfl [z_o, z_weight_a, z_gave_a] rfl (fun _ => rfl) [some 0, none, none, some 2, some 1] (by decide +kernel) (fun _ => (w_X8_pointsAt cI cZ cQ cW z_o z_weight_a z_wants_a z_wantsMany_a z_st_a z_was_a z_images_a z_isKept_a z_told_a z_text_a z_saidWeight_a z_saidNights_a z_saidWants_a z_saidMany_a z_now_a z_gave_a z_at_a z_way_a z_bestWay_a z_made_a z_people z_known z_toldMany z_trace z_texted z_cursor z_start z_token z_number z_isWrong z_items z_saidPeople z_saidLaw z_ringed z_lumps z_wantsMany z_wants z_gave z_weight)) (fun _ => rfl) (fun r47 u H locs h hW hS => ?_)
        have hW : PD (dC, dI) A (w_X8_pointsAt cI cZ cQ cW z_o z_weight_a z_wants_a z_wantsMany_a z_st_a z_was_a z_images_a z_isKept_a z_told_a z_text_a z_saidWeight_a z_saidNights_a z_saidWants_a z_saidMany_a z_now_a z_gave_a z_at_a z_way_a z_bestWay_a z_made_a z_people z_known z_toldMany z_trace z_texted z_cursor z_start z_token z_number z_isWrong z_items z_saidPeople z_saidLaw z_ringed z_lumps z_wantsMany z_wants z_gave z_weight) H := hW
        refine lv_istore (pc := 50) (lv' := [(9, .int r47), (8, .int r37), (7, .int (z_wants (((4 : Int32) * x1) + y6_l9).toNatClampNeg)), (0, .ref z_o), (1, .int x1), (2, .int x2), (3, .int x3), (4, .int y4_l9), (5, .int y5_l9), (6, .int y6_l9)]) hx hb (tb_at tk_X8_pointsAt 31 rfl) hl (by decide) rfl (fun ls hl => ?_)
        refine lv_iload (pc := 52) hx hb (tb_at tk_X8_pointsAt 32 rfl) (lv_at hl 1 rfl) ?_
        have w74 : ∀ (s0_j74 : Int32) (H : Heap) (locs : List Loc) (ls : Array Slot), f_X8_pointsAt_j74 y4_l9 y5_l9 y6_l9 r37 r47 (f_X8_pointsAt_l9 x1 x2 x3 z_people z_wantsMany z_wants z_gave z_weight k N n9) s0_j74 = some res → PD (dC, dI) A (w_X8_pointsAt cI cZ cQ cW z_o z_weight_a z_wants_a z_wantsMany_a z_st_a z_was_a z_images_a z_isKept_a z_told_a z_text_a z_saidWeight_a z_saidNights_a z_saidWants_a z_saidMany_a z_now_a z_gave_a z_at_a z_way_a z_bestWay_a z_made_a z_people z_known z_toldMany z_trace z_texted z_cursor z_start z_token z_number z_isWrong z_items z_saidPeople z_saidLaw z_ringed z_lumps z_wantsMany z_wants z_gave z_weight) H → va_S A s.heap H locs → lv_has ls 11 [(0, .ref z_o), (1, .int x1), (2, .int x2), (3, .int x3), (4, .int y4_l9), (5, .int y5_l9), (6, .int y6_l9), (8, .int r37), (9, .int r47)] → W p l e rm_X8_pointsAt s m args below meth c H locs 0 0 Q (F0 m 74 ls [.int s0_j74]) := by
          intro s0_j74 H locs ls h hW hS hl
          unfold f_X8_pointsAt_j74 at h
          refine lv_istore (pc := 74) (lv' := [(10, .int s0_j74), (0, .ref z_o), (1, .int x1), (2, .int x2), (3, .int x3), (4, .int y4_l9), (5, .int y5_l9), (6, .int y6_l9), (8, .int r37), (9, .int r47)]) hx hb (tb_at tk_X8_pointsAt 42 rfl) hl (by decide) rfl (fun ls hl => ?_)
          refine lv_iload (pc := 76) hx hb (tb_at tk_X8_pointsAt 43 rfl) (lv_at hl 0 rfl) ?_
          have w88 : ∀ (s0_j88 : Int32) (H : Heap) (locs : List Loc) (ls : Array Slot), f_X8_pointsAt_j88 y5_l9 y6_l9 r47 s0_j74 (f_X8_pointsAt_l9 x1 x2 x3 z_people z_wantsMany z_wants z_gave z_weight k N n9) s0_j88 = some res → PD (dC, dI) A (w_X8_pointsAt cI cZ cQ cW z_o z_weight_a z_wants_a z_wantsMany_a z_st_a z_was_a z_images_a z_isKept_a z_told_a z_text_a z_saidWeight_a z_saidNights_a z_saidWants_a z_saidMany_a z_now_a z_gave_a z_at_a z_way_a z_bestWay_a z_made_a z_people z_known z_toldMany z_trace z_texted z_cursor z_start z_token z_number z_isWrong z_items z_saidPeople z_saidLaw z_ringed z_lumps z_wantsMany z_wants z_gave z_weight) H → va_S A s.heap H locs → lv_has ls 11 [(0, .ref z_o), (1, .int x1), (2, .int x2), (3, .int x3), (5, .int y5_l9), (6, .int y6_l9), (9, .int r47), (10, .int s0_j74)] → W p l e rm_X8_pointsAt s m args below meth c H locs 0 0 Q (F0 m 88 ls [.int s0_j88]) := by
            intro s0_j88 H locs ls h hW hS hl
            unfold f_X8_pointsAt_j88 at h
            refine lv_istore (pc := 88) (lv' := [(4, .int s0_j88), (0, .ref z_o), (1, .int x1), (2, .int x2), (3, .int x3), (5, .int y5_l9), (6, .int y6_l9), (9, .int r47), (10, .int s0_j74)]) hx hb (tb_at tk_X8_pointsAt 48 rfl) hl (by decide) rfl (fun ls hl => ?_)
            refine lv_iload (pc := 90) hx hb (tb_at tk_X8_pointsAt 49 rfl) (lv_at hl 8 rfl) ?_
            refine lv_if_eq (pc := 92) (tgt := 100) hx hb (tb_at tk_X8_pointsAt 50 rfl) (by decide) (fun cc => ?_) (fun cc => ?_)
            · have h := it_t cc h
              refine lv_iload (pc := 100) hx hb (tb_at tk_X8_pointsAt 53 rfl) (lv_at hl 5 rfl) ?_
              refine lv_istore (pc := 102) (lv' := [(5, .int y5_l9), (4, .int s0_j88), (0, .ref z_o), (1, .int x1), (2, .int x2), (3, .int x3), (6, .int y6_l9), (9, .int r47), (10, .int s0_j74)]) hx hb (tb_at tk_X8_pointsAt 54 rfl) hl (by decide) rfl (fun ls hl => ?_)
              refine lv_iinc (pc := 104) (v := y6_l9 + 1) (lv' := [(6, .int (y6_l9 + 1)), (5, .int y5_l9), (4, .int s0_j88), (0, .ref z_o), (1, .int x1), (2, .int x2), (3, .int x3), (9, .int r47), (10, .int s0_j74)]) hx hb (tb_at tk_X8_pointsAt 55 rfl) hl (k := 6) rfl rfl (by decide) rfl (fun ls hl => ?_)
              refine lv_goto (pc := 107) (tgt := 9) hx hb (tb_at tk_X8_pointsAt 56 rfl) (by decide) ?_
              exact ih9 s0_j88 y5_l9 (y6_l9 + 1) _ _ _ h hW hS (lv_sub hl [3, 4, 5, 6, 2, 1, 0] rfl)
            · have h := it_f cc h
              refine lv_iload (pc := 95) hx hb (tb_at tk_X8_pointsAt 51 rfl) (lv_at hl 7 rfl) ?_
              refine lv_goto (pc := 97) (tgt := 102) hx hb (tb_at tk_X8_pointsAt 52 rfl) (by decide) ?_
              refine lv_istore (pc := 102) (lv' := [(5, .int r47), (4, .int s0_j88), (0, .ref z_o), (1, .int x1), (2, .int x2), (3, .int x3), (6, .int y6_l9), (9, .int r47), (10, .int s0_j74)]) hx hb (tb_at tk_X8_pointsAt 54 rfl) hl (by decide) rfl (fun ls hl => ?_)
              refine lv_iinc (pc := 104) (v := y6_l9 + 1) (lv' := [(6, .int (y6_l9 + 1)), (5, .int r47), (4, .int s0_j88), (0, .ref z_o), (1, .int x1), (2, .int x2), (3, .int x3), (9, .int r47), (10, .int s0_j74)]) hx hb (tb_at tk_X8_pointsAt 55 rfl) hl (k := 6) rfl rfl (by decide) rfl (fun ls hl => ?_)
              refine lv_goto (pc := 107) (tgt := 9) hx hb (tb_at tk_X8_pointsAt 56 rfl) (by decide) ?_
              exact ih9 s0_j88 r47 (y6_l9 + 1) _ _ _ h hW hS (lv_sub hl [3, 4, 5, 6, 2, 1, 0] rfl)
          refine lv_if_eq (pc := 78) (tgt := 86) hx hb (tb_at tk_X8_pointsAt 44 rfl) (by decide) (fun cc => ?_) (fun cc => ?_)
          · have h := it_t cc h
            refine lv_iload (pc := 86) hx hb (tb_at tk_X8_pointsAt 47 rfl) (lv_at hl 5 rfl) ?_
            exact w88 y4_l9 _ _ _ h hW hS (lv_sub hl [1, 2, 3, 4, 6, 7, 9, 0] rfl)
          · have h := it_f cc h
            refine lv_iload (pc := 81) hx hb (tb_at tk_X8_pointsAt 45 rfl) (lv_at hl 8 rfl) ?_
            refine lv_goto (pc := 83) (tgt := 88) hx hb (tb_at tk_X8_pointsAt 46 rfl) (by decide) ?_
            exact w88 r37 _ _ _ h hW hS (lv_sub hl [1, 2, 3, 4, 6, 7, 9, 0] rfl)
        have w73 : ∀ (H : Heap) (locs : List Loc) (ls : Array Slot), f_X8_pointsAt_j73 y4_l9 y5_l9 y6_l9 r37 r47 (f_X8_pointsAt_l9 x1 x2 x3 z_people z_wantsMany z_wants z_gave z_weight k N n9) = some res → PD (dC, dI) A (w_X8_pointsAt cI cZ cQ cW z_o z_weight_a z_wants_a z_wantsMany_a z_st_a z_was_a z_images_a z_isKept_a z_told_a z_text_a z_saidWeight_a z_saidNights_a z_saidWants_a z_saidMany_a z_now_a z_gave_a z_at_a z_way_a z_bestWay_a z_made_a z_people z_known z_toldMany z_trace z_texted z_cursor z_start z_token z_number z_isWrong z_items z_saidPeople z_saidLaw z_ringed z_lumps z_wantsMany z_wants z_gave z_weight) H → va_S A s.heap H locs → lv_has ls 11 [(0, .ref z_o), (1, .int x1), (2, .int x2), (3, .int x3), (4, .int y4_l9), (5, .int y5_l9), (6, .int y6_l9), (8, .int r37), (9, .int r47)] → W p l e rm_X8_pointsAt s m args below meth c H locs 0 0 Q (F0 m 73 ls []) := by
          intro H locs ls h hW hS hl
          unfold f_X8_pointsAt_j73 at h
          refine lv_iconst (pc := 73) (v := 0) hx hb (tb_at tk_X8_pointsAt 41 rfl) (by decide) ?_
          exact w74 0 _ _ _ h hW hS (lv_sub hl [0, 1, 2, 3, 4, 5, 6, 7, 8] rfl)
        refine lv_if_lt (pc := 54) (tgt := 73) hx hb (tb_at tk_X8_pointsAt 33 rfl) (by decide) (fun cc => ?_) (fun cc => ?_)
        · have h := it_t cc h
          exact w73  _ _ _ h hW hS (lv_sub hl [3, 4, 5, 6, 7, 8, 9, 1, 0] rfl)
        · have h := it_f cc h
          refine lv_iload (pc := 57) hx hb (tb_at tk_X8_pointsAt 34 rfl) (lv_at hl 7 rfl) ?_
          have w69 : ∀ (H : Heap) (locs : List Loc) (ls : Array Slot), f_X8_pointsAt_j69 y4_l9 y5_l9 y6_l9 r37 r47 (f_X8_pointsAt_l9 x1 x2 x3 z_people z_wantsMany z_wants z_gave z_weight k N n9) = some res → PD (dC, dI) A (w_X8_pointsAt cI cZ cQ cW z_o z_weight_a z_wants_a z_wantsMany_a z_st_a z_was_a z_images_a z_isKept_a z_told_a z_text_a z_saidWeight_a z_saidNights_a z_saidWants_a z_saidMany_a z_now_a z_gave_a z_at_a z_way_a z_bestWay_a z_made_a z_people z_known z_toldMany z_trace z_texted z_cursor z_start z_token z_number z_isWrong z_items z_saidPeople z_saidLaw z_ringed z_lumps z_wantsMany z_wants z_gave z_weight) H → va_S A s.heap H locs → lv_has ls 11 [(0, .ref z_o), (1, .int x1), (2, .int x2), (3, .int x3), (4, .int y4_l9), (5, .int y5_l9), (6, .int y6_l9), (8, .int r37), (9, .int r47)] → W p l e rm_X8_pointsAt s m args below meth c H locs 0 0 Q (F0 m 69 ls []) := by
            intro H locs ls h hW hS hl
            unfold f_X8_pointsAt_j69 at h
            refine lv_iconst (pc := 69) (v := 1) hx hb (tb_at tk_X8_pointsAt 39 rfl) (by decide) ?_
            refine lv_goto (pc := 70) (tgt := 74) hx hb (tb_at tk_X8_pointsAt 40 rfl) (by decide) ?_
            exact w74 1 _ _ _ h hW hS (lv_sub hl [0, 1, 2, 3, 4, 5, 6, 7, 8] rfl)
          refine lv_if_lt (pc := 59) (tgt := 69) hx hb (tb_at tk_X8_pointsAt 35 rfl) (by decide) (fun cc => ?_) (fun cc => ?_)
          · have h := it_t cc h
            exact w69  _ _ _ h hW hS (lv_sub hl [3, 4, 5, 6, 7, 8, 9, 1, 0] rfl)
          · have h := it_f cc h
            refine lv_iload (pc := 62) hx hb (tb_at tk_X8_pointsAt 36 rfl) (lv_at hl 0 rfl) ?_
            refine lv_iload (pc := 64) hx hb (tb_at tk_X8_pointsAt 37 rfl) (lv_at hl 8 rfl) ?_
            refine lv_icmp_ge (pc := 66) (tgt := 73) hx hb (tb_at tk_X8_pointsAt 38 rfl) (by decide) (fun cc => ?_) (fun cc => ?_)
            · have h := it_t cc h
              exact w73  _ _ _ h hW hS (lv_sub hl [3, 4, 5, 6, 7, 8, 9, 1, 0] rfl)
            · have h := it_f cc h
              exact w69  _ _ _ h hW hS (lv_sub hl [3, 4, 5, 6, 7, 8, 9, 1, 0] rfl)
  exact w9 N (-1) 0 0 _ _ _ h hW hS (lv_sub hl [3, 4, 5, 6, 2, 1, 0] rfl)
def f_X8_isLump {ρ : Type} (N : Nat) (z_lumps : Int32) (z_now : Nat → Int32) (z_gave : Nat → Int32) (z_weight : Nat → Int32) (x1 : Int32) (k : Int32 → (Nat → Int32) → Option ρ) : Option ρ := ck (ivi ((0 : Int32) + x1) 25) (ck (ivi (13 : Int32) 25) (if 8 ≤ ((upd z_now ((0 : Int32) + x1).toNatClampNeg 6) ((13 : Int32)).toNatClampNeg) then (k (z_lumps + 1) (upd z_now ((0 : Int32) + x1).toNatClampNeg 6)) else (ck (ivi (13 : Int32) 25) (ck (ivi x1 6) (ck (ivi (z_gave (x1).toNatClampNeg) 6) (ck (ivi ((14 : Int32) + ((upd z_now ((0 : Int32) + x1).toNatClampNeg 6) ((13 : Int32)).toNatClampNeg)) 25) (ck (ivi (13 : Int32) 25) (ck (ivi (13 : Int32) 25) (k (z_lumps + 1) (upd (upd (upd z_now ((0 : Int32) + x1).toNatClampNeg 6) ((14 : Int32) + ((upd z_now ((0 : Int32) + x1).toNatClampNeg 6) ((13 : Int32)).toNatClampNeg)).toNatClampNeg (z_weight (z_gave (x1).toNatClampNeg).toNatClampNeg)) ((13 : Int32)).toNatClampNeg (((upd (upd z_now ((0 : Int32) + x1).toNatClampNeg 6) ((14 : Int32) + ((upd z_now ((0 : Int32) + x1).toNatClampNeg 6) ((13 : Int32)).toNatClampNeg)).toNatClampNeg (z_weight (z_gave (x1).toNatClampNeg).toNatClampNeg)) ((13 : Int32)).toNatClampNeg) + 1)))))))))))
abbrev w_X8_isLump (cI cZ cQ cW : ClassId) (z_o : Nat) (z_weight_a : Nat) (z_wants_a : Nat) (z_wantsMany_a : Nat) (z_st_a : Nat) (z_was_a : Nat) (z_images_a : Nat) (z_isKept_a : Nat) (z_told_a : Nat) (z_text_a : Nat) (z_saidWeight_a : Nat) (z_saidNights_a : Nat) (z_saidWants_a : Nat) (z_saidMany_a : Nat) (z_now_a : Nat) (z_gave_a : Nat) (z_at_a : Nat) (z_way_a : Nat) (z_bestWay_a : Nat) (z_made_a : Nat) (z_people : Int32) (z_known : Int32) (z_toldMany : Int32) (z_trace : Int64) (z_texted : Int32) (z_cursor : Int32) (z_start : Int32) (z_token : Int32) (z_number : Int32) (z_isWrong : Int32) (z_items : Int32) (z_saidPeople : Int32) (z_saidLaw : Int32) (z_ringed : Int32) (z_lumps : Int32) (z_now : Nat → Int32) (z_gave : Nat → Int32) (z_weight : Nat → Int32) : va_W := [(z_o, .inr (8, [.int z_people, .ref z_weight_a, .ref z_wants_a, .ref z_wantsMany_a, .ref z_st_a, .ref z_was_a, .int z_known, .ref z_images_a, .ref z_isKept_a, .int z_toldMany, .ref z_told_a, .long z_trace, .ref z_text_a, .int z_texted, .int z_cursor, .int z_start, .int z_token, .int z_number, .int z_isWrong, .int z_items, .int z_saidPeople, .ref z_saidWeight_a, .ref z_saidNights_a, .ref z_saidWants_a, .ref z_saidMany_a, .int z_saidLaw, .ref z_now_a, .ref z_gave_a, .ref z_at_a, .int z_ringed, .int z_lumps, .ref z_way_a, .ref z_bestWay_a, .ref z_made_a])), (z_now_a, .inl (cI, 25, .inl z_now)), (z_gave_a, .inl (cI, 6, .inl z_gave)), (z_weight_a, .inl (cI, 6, .inl z_weight))]
abbrev rm_X8_isLump : Room := { frames := 0, cells := 0, slots := 0, locals := 0 }
set_option maxHeartbeats 4000000 in
set_option maxRecDepth 100000 in
theorem c_X8_isLump (l : Launch) (dC : Nat → ClassId) (dI : Nat → Nat → Nat) (cI cZ cQ cW : ClassId) (z_o : Nat) (z_weight_a : Nat) (z_wants_a : Nat) (z_wantsMany_a : Nat) (z_st_a : Nat) (z_was_a : Nat) (z_images_a : Nat) (z_isKept_a : Nat) (z_told_a : Nat) (z_text_a : Nat) (z_saidWeight_a : Nat) (z_saidNights_a : Nat) (z_saidWants_a : Nat) (z_saidMany_a : Nat) (z_now_a : Nat) (z_gave_a : Nat) (z_at_a : Nat) (z_way_a : Nat) (z_bestWay_a : Nat) (z_made_a : Nat) (z_people : Int32) (z_known : Int32) (z_toldMany : Int32) (z_trace : Int64) (z_texted : Int32) (z_cursor : Int32) (z_start : Int32) (z_token : Int32) (z_number : Int32) (z_isWrong : Int32) (z_items : Int32) (z_saidPeople : Int32) (z_saidLaw : Int32) (z_ringed : Int32) (z_lumps : Int32) (z_now : Nat → Int32) (z_gave : Nat → Int32) (z_weight : Nat → Int32) (x1 : Int32) {ρ : Type} (N : Nat) (k : Int32 → (Nat → Int32) → Option ρ) (res : ρ) (h : f_X8_isLump N z_lumps z_now z_gave z_weight x1 k = some res) : Cv l yX8_isLump (WS yX8_isLump cX8_isLump 2 none) rm_X8_isLump (dC, dI) (tysG cI cZ cQ cW) E0 [.ref z_o, .int x1] (w_X8_isLump cI cZ cQ cW z_o z_weight_a z_wants_a z_wantsMany_a z_st_a z_was_a z_images_a z_isKept_a z_told_a z_text_a z_saidWeight_a z_saidNights_a z_saidWants_a z_saidMany_a z_now_a z_gave_a z_at_a z_way_a z_bestWay_a z_made_a z_people z_known z_toldMany z_trace z_texted z_cursor z_start z_token z_number z_isWrong z_items z_saidPeople z_saidLaw z_ringed z_lumps z_now z_gave z_weight) (fun (u : Int32 × (Nat → Int32)) => (w_X8_isLump cI cZ cQ cW z_o z_weight_a z_wants_a z_wantsMany_a z_st_a z_was_a z_images_a z_isKept_a z_told_a z_text_a z_saidWeight_a z_saidNights_a z_saidWants_a z_saidMany_a z_now_a z_gave_a z_at_a z_way_a z_bestWay_a z_made_a z_people z_known z_toldMany z_trace z_texted z_cursor z_start z_token z_number z_isWrong z_items z_saidPeople z_saidLaw z_ringed u.1 u.2 z_gave z_weight)) (fun u => k u.1 u.2 = some res) := by
  refine Cv.of (cc := cX8_isLump) (n := 2) (by decide +kernel) (Nat.le_of_ble_eq_true rfl) ?_
  intro p e s m args below meth c A ls Q B hW hE hS hl hQ
  have hx := B.1
  have hb := B.2.1
  have hl : lv_has ls 2 [(0, .ref z_o), (1, .int x1)] := hl
  unfold f_X8_isLump at h
  refine lv_aload_n (pc := 0) hx hb (tb_at tk_X8_isLump 0 rfl) rfl (lv_at hl 0 rfl) ?_
  refine k_get (pc := 1) (v := .ref z_now_a) (T := TX8) B inG8 hW 0 rfl rfl 26 (by decide) q_f_X8_50 rfl rfl (tb_at tk_X8_isLump 1 rfl) ?_
  refine lv_iconst (pc := 4) (v := 0) hx hb (tb_at tk_X8_isLump 2 rfl) (by decide) ?_
  refine lv_iload_n (pc := 5) hx hb (tb_at tk_X8_isLump 3 rfl) rfl (lv_at hl 1 rfl) ?_
  refine lv_iadd (pc := 6) hx hb (tb_at tk_X8_isLump 4 rfl) ?_
  refine lv_bipush (pc := 7) (v := 6) hx hb (tb_at tk_X8_isLump 5 rfl) (by decide) ?_
  have ii := ivi_in (ck_l h)
  have h := ck_r h
  refine k_iast (pc := 9) B hW hS 1 0 rfl rfl ii (tb_at tk_X8_isLump 6 rfl) (w_X8_isLump cI cZ cQ cW z_o z_weight_a z_wants_a z_wantsMany_a z_st_a z_was_a z_images_a z_isKept_a z_told_a z_text_a z_saidWeight_a z_saidNights_a z_saidWants_a z_saidMany_a z_now_a z_gave_a z_at_a z_way_a z_bestWay_a z_made_a z_people z_known z_toldMany z_trace z_texted z_cursor z_start z_token z_number z_isWrong z_items z_saidPeople z_saidLaw z_ringed z_lumps (upd z_now ((0 : Int32) + x1).toNatClampNeg 6) z_gave z_weight) rfl (fun H locs hW hS => ?_)
  refine lv_aload_n (pc := 10) hx hb (tb_at tk_X8_isLump 7 rfl) rfl (lv_at hl 0 rfl) ?_
  refine lv_dup (pc := 11) hx hb (tb_at tk_X8_isLump 8 rfl) rfl ?_
  refine k_get (pc := 12) (v := .int z_lumps) (T := TX8) B inG8 hW 0 rfl rfl 30 (by decide) q_f_X8_152 rfl rfl (tb_at tk_X8_isLump 9 rfl) ?_
  refine lv_iconst (pc := 15) (v := 1) hx hb (tb_at tk_X8_isLump 10 rfl) (by decide) ?_
  refine lv_iadd (pc := 16) hx hb (tb_at tk_X8_isLump 11 rfl) ?_
  refine k_put (pc := 17) (T := TX8) B inG8 tyX8 tyX8_ok nmX8 hW hS 0 rfl rfl 30 (by decide) q_f_X8_152 rfl rfl rfl rfl (Nat.le_of_ble_eq_true rfl) (tb_at tk_X8_isLump 12 rfl) (w_X8_isLump cI cZ cQ cW z_o z_weight_a z_wants_a z_wantsMany_a z_st_a z_was_a z_images_a z_isKept_a z_told_a z_text_a z_saidWeight_a z_saidNights_a z_saidWants_a z_saidMany_a z_now_a z_gave_a z_at_a z_way_a z_bestWay_a z_made_a z_people z_known z_toldMany z_trace z_texted z_cursor z_start z_token z_number z_isWrong z_items z_saidPeople z_saidLaw z_ringed (z_lumps + 1) (upd z_now ((0 : Int32) + x1).toNatClampNeg 6) z_gave z_weight) rfl (fun H locs hW hS => ?_)
  refine lv_aload_n (pc := 20) hx hb (tb_at tk_X8_isLump 13 rfl) rfl (lv_at hl 0 rfl) ?_
  refine k_get (pc := 21) (v := .ref z_now_a) (T := TX8) B inG8 hW 0 rfl rfl 26 (by decide) q_f_X8_50 rfl rfl (tb_at tk_X8_isLump 14 rfl) ?_
  refine lv_bipush (pc := 24) (v := 13) hx hb (tb_at tk_X8_isLump 15 rfl) (by decide) ?_
  have ii := ivi_in (ck_l h)
  have h := ck_r h
  refine k_iald (pc := 26) B hW 1 0 rfl rfl ii (tb_at tk_X8_isLump 16 rfl) ?_
  refine lv_bipush (pc := 27) (v := 8) hx hb (tb_at tk_X8_isLump 17 rfl) (by decide) ?_
  refine lv_icmp_ge (pc := 29) (tgt := 69) hx hb (tb_at tk_X8_isLump 18 rfl) (by decide) (fun cc => ?_) (fun cc => ?_)
  · have h := it_t cc h
    exact hQ (z_lumps + 1, upd z_now ((0 : Int32) + x1).toNatClampNeg 6) _ _ _ 69 h hW hS (tb_at tk_X8_isLump 43 rfl)
  · have h := it_f cc h
    refine lv_aload_n (pc := 32) hx hb (tb_at tk_X8_isLump 19 rfl) rfl (lv_at hl 0 rfl) ?_
    refine k_get (pc := 33) (v := .ref z_now_a) (T := TX8) B inG8 hW 0 rfl rfl 26 (by decide) q_f_X8_50 rfl rfl (tb_at tk_X8_isLump 20 rfl) ?_
    refine lv_bipush (pc := 36) (v := 14) hx hb (tb_at tk_X8_isLump 21 rfl) (by decide) ?_
    refine lv_aload_n (pc := 38) hx hb (tb_at tk_X8_isLump 22 rfl) rfl (lv_at hl 0 rfl) ?_
    refine k_get (pc := 39) (v := .ref z_now_a) (T := TX8) B inG8 hW 0 rfl rfl 26 (by decide) q_f_X8_50 rfl rfl (tb_at tk_X8_isLump 23 rfl) ?_
    refine lv_bipush (pc := 42) (v := 13) hx hb (tb_at tk_X8_isLump 24 rfl) (by decide) ?_
    have ii := ivi_in (ck_l h)
    have h := ck_r h
    refine k_iald (pc := 44) B hW 1 0 rfl rfl ii (tb_at tk_X8_isLump 25 rfl) ?_
    refine lv_iadd (pc := 45) hx hb (tb_at tk_X8_isLump 26 rfl) ?_
    refine lv_aload_n (pc := 46) hx hb (tb_at tk_X8_isLump 27 rfl) rfl (lv_at hl 0 rfl) ?_
    refine k_get (pc := 47) (v := .ref z_weight_a) (T := TX8) B inG8 hW 0 rfl rfl 1 (by decide) q_f_X8_7 rfl rfl (tb_at tk_X8_isLump 28 rfl) ?_
    refine lv_aload_n (pc := 50) hx hb (tb_at tk_X8_isLump 29 rfl) rfl (lv_at hl 0 rfl) ?_
    refine k_get (pc := 51) (v := .ref z_gave_a) (T := TX8) B inG8 hW 0 rfl rfl 27 (by decide) q_f_X8_53 rfl rfl (tb_at tk_X8_isLump 30 rfl) ?_
    refine lv_iload_n (pc := 54) hx hb (tb_at tk_X8_isLump 31 rfl) rfl (lv_at hl 1 rfl) ?_
    have ii := ivi_in (ck_l h)
    have h := ck_r h
    refine k_iald (pc := 55) B hW 2 0 rfl rfl ii (tb_at tk_X8_isLump 32 rfl) ?_
    have ii := ivi_in (ck_l h)
    have h := ck_r h
    refine k_iald (pc := 56) B hW 3 0 rfl rfl ii (tb_at tk_X8_isLump 33 rfl) ?_
    have ii := ivi_in (ck_l h)
    have h := ck_r h
    refine k_iast (pc := 57) B hW hS 1 0 rfl rfl ii (tb_at tk_X8_isLump 34 rfl) (w_X8_isLump cI cZ cQ cW z_o z_weight_a z_wants_a z_wantsMany_a z_st_a z_was_a z_images_a z_isKept_a z_told_a z_text_a z_saidWeight_a z_saidNights_a z_saidWants_a z_saidMany_a z_now_a z_gave_a z_at_a z_way_a z_bestWay_a z_made_a z_people z_known z_toldMany z_trace z_texted z_cursor z_start z_token z_number z_isWrong z_items z_saidPeople z_saidLaw z_ringed (z_lumps + 1) (upd (upd z_now ((0 : Int32) + x1).toNatClampNeg 6) ((14 : Int32) + ((upd z_now ((0 : Int32) + x1).toNatClampNeg 6) ((13 : Int32)).toNatClampNeg)).toNatClampNeg (z_weight (z_gave (x1).toNatClampNeg).toNatClampNeg)) z_gave z_weight) rfl (fun H locs hW hS => ?_)
    refine lv_aload_n (pc := 58) hx hb (tb_at tk_X8_isLump 35 rfl) rfl (lv_at hl 0 rfl) ?_
    refine k_get (pc := 59) (v := .ref z_now_a) (T := TX8) B inG8 hW 0 rfl rfl 26 (by decide) q_f_X8_50 rfl rfl (tb_at tk_X8_isLump 36 rfl) ?_
    refine lv_bipush (pc := 62) (v := 13) hx hb (tb_at tk_X8_isLump 37 rfl) (by decide) ?_
    refine lv_dup2_11 (pc := 64) hx hb (tb_at tk_X8_isLump 38 rfl) rfl rfl ?_
    have ii := ivi_in (ck_l h)
    have h := ck_r h
    refine k_iald (pc := 65) B hW 1 0 rfl rfl ii (tb_at tk_X8_isLump 39 rfl) ?_
    refine lv_iconst (pc := 66) (v := 1) hx hb (tb_at tk_X8_isLump 40 rfl) (by decide) ?_
    refine lv_iadd (pc := 67) hx hb (tb_at tk_X8_isLump 41 rfl) ?_
    have ii := ivi_in (ck_l h)
    have h := ck_r h
    refine k_iast (pc := 68) B hW hS 1 0 rfl rfl ii (tb_at tk_X8_isLump 42 rfl) (w_X8_isLump cI cZ cQ cW z_o z_weight_a z_wants_a z_wantsMany_a z_st_a z_was_a z_images_a z_isKept_a z_told_a z_text_a z_saidWeight_a z_saidNights_a z_saidWants_a z_saidMany_a z_now_a z_gave_a z_at_a z_way_a z_bestWay_a z_made_a z_people z_known z_toldMany z_trace z_texted z_cursor z_start z_token z_number z_isWrong z_items z_saidPeople z_saidLaw z_ringed (z_lumps + 1) (upd (upd (upd z_now ((0 : Int32) + x1).toNatClampNeg 6) ((14 : Int32) + ((upd z_now ((0 : Int32) + x1).toNatClampNeg 6) ((13 : Int32)).toNatClampNeg)).toNatClampNeg (z_weight (z_gave (x1).toNatClampNeg).toNatClampNeg)) ((13 : Int32)).toNatClampNeg (((upd (upd z_now ((0 : Int32) + x1).toNatClampNeg 6) ((14 : Int32) + ((upd z_now ((0 : Int32) + x1).toNatClampNeg 6) ((13 : Int32)).toNatClampNeg)).toNatClampNeg (z_weight (z_gave (x1).toNatClampNeg).toNatClampNeg)) ((13 : Int32)).toNatClampNeg) + 1)) z_gave z_weight) rfl (fun H locs hW hS => ?_)
    exact hQ (z_lumps + 1, upd (upd (upd z_now ((0 : Int32) + x1).toNatClampNeg 6) ((14 : Int32) + ((upd z_now ((0 : Int32) + x1).toNatClampNeg 6) ((13 : Int32)).toNatClampNeg)).toNatClampNeg (z_weight (z_gave (x1).toNatClampNeg).toNatClampNeg)) ((13 : Int32)).toNatClampNeg (((upd (upd z_now ((0 : Int32) + x1).toNatClampNeg 6) ((14 : Int32) + ((upd z_now ((0 : Int32) + x1).toNatClampNeg 6) ((13 : Int32)).toNatClampNeg)).toNatClampNeg (z_weight (z_gave (x1).toNatClampNeg).toNatClampNeg)) ((13 : Int32)).toNatClampNeg) + 1)) _ _ _ 69 h hW hS (tb_at tk_X8_isLump 43 rfl)
def f_X8_ringOf_l31 {ρ : Type} (z_at : Nat → Int32) (z_gave : Nat → Int32) (k : Int32 → (Nat → Int32) → Option ρ) (N : Nat) : Nat → Int32 → Int32 → (Nat → Int32) → Option ρ
  | 0, _, _, _ => none
  | n31 + 1, y3_l31, y4_l31, z_now_l31 => f_X8_has N y4_l31 y3_l31 (fun r34 => if r34 = 0 then (ck (ivi y3_l31 6) (ck (ivi (z_at (y3_l31).toNatClampNeg) 6) (ck (ivi ((0 : Int32) + y3_l31) 25) (ck (ivi y3_l31 6) ((f_X8_ringOf_l31 z_at z_gave k N n31) (z_at (y3_l31).toNatClampNeg) (y4_l31 ||| ((1 : Int32) <<< (y3_l31 &&& 31))) (upd z_now_l31 ((0 : Int32) + y3_l31).toNatClampNeg (z_gave (z_at (y3_l31).toNatClampNeg).toNatClampNeg))))))) else (k y4_l31 z_now_l31))
def f_X8_ringOf_e28 {ρ : Type} (z_now : Nat → Int32) (z_at : Nat → Int32) (z_gave : Nat → Int32) (k : Int32 → (Nat → Int32) → Option ρ) (N : Nat) (y3_e28 : Int32) : Option ρ := f_X8_ringOf_l31 z_at z_gave k N N y3_e28 0 z_now
def f_X8_ringOf_l4 {ρ : Type} (z_at : Nat → Int32) (k28 : Int32 → Option ρ) (N : Nat) : Nat → Int32 → Int32 → Option ρ
  | 0, _, _ => none
  | n4 + 1, y2_l4, y3_l4 => f_X8_has N y2_l4 y3_l4 (fun r6 => if r6 = 0 then (ck (ivi y3_l4 6) ((f_X8_ringOf_l4 z_at k28 N n4) (y2_l4 ||| ((1 : Int32) <<< (y3_l4 &&& 31))) (z_at (y3_l4).toNatClampNeg))) else (k28 y3_l4))
def f_X8_ringOf {ρ : Type} (N : Nat) (z_at : Nat → Int32) (z_gave : Nat → Int32) (z_now : Nat → Int32) (x1 : Int32) (k : Int32 → (Nat → Int32) → Option ρ) : Option ρ := f_X8_ringOf_l4 z_at (fun y3_e28 => f_X8_ringOf_e28 z_now z_at z_gave k N y3_e28) N N 0 x1
abbrev w_X8_ringOf (cI cZ cQ cW : ClassId) (z_o : Nat) (z_weight_a : Nat) (z_wants_a : Nat) (z_wantsMany_a : Nat) (z_st_a : Nat) (z_was_a : Nat) (z_images_a : Nat) (z_isKept_a : Nat) (z_told_a : Nat) (z_text_a : Nat) (z_saidWeight_a : Nat) (z_saidNights_a : Nat) (z_saidWants_a : Nat) (z_saidMany_a : Nat) (z_now_a : Nat) (z_gave_a : Nat) (z_at_a : Nat) (z_way_a : Nat) (z_bestWay_a : Nat) (z_made_a : Nat) (z_people : Int32) (z_known : Int32) (z_toldMany : Int32) (z_trace : Int64) (z_texted : Int32) (z_cursor : Int32) (z_start : Int32) (z_token : Int32) (z_number : Int32) (z_isWrong : Int32) (z_items : Int32) (z_saidPeople : Int32) (z_saidLaw : Int32) (z_ringed : Int32) (z_lumps : Int32) (z_at : Nat → Int32) (z_gave : Nat → Int32) (z_now : Nat → Int32) : va_W := [(z_o, .inr (8, [.int z_people, .ref z_weight_a, .ref z_wants_a, .ref z_wantsMany_a, .ref z_st_a, .ref z_was_a, .int z_known, .ref z_images_a, .ref z_isKept_a, .int z_toldMany, .ref z_told_a, .long z_trace, .ref z_text_a, .int z_texted, .int z_cursor, .int z_start, .int z_token, .int z_number, .int z_isWrong, .int z_items, .int z_saidPeople, .ref z_saidWeight_a, .ref z_saidNights_a, .ref z_saidWants_a, .ref z_saidMany_a, .int z_saidLaw, .ref z_now_a, .ref z_gave_a, .ref z_at_a, .int z_ringed, .int z_lumps, .ref z_way_a, .ref z_bestWay_a, .ref z_made_a])), (z_at_a, .inl (cI, 6, .inl z_at)), (z_gave_a, .inl (cI, 6, .inl z_gave)), (z_now_a, .inl (cI, 25, .inl z_now))]
abbrev rm_X8_ringOf : Room := { frames := 1, cells := 0, slots := 0, locals := 21 }
set_option maxHeartbeats 4000000 in
set_option maxRecDepth 100000 in
theorem c_X8_ringOf (l : Launch) (dC : Nat → ClassId) (dI : Nat → Nat → Nat) (cI cZ cQ cW : ClassId) (z_o : Nat) (z_weight_a : Nat) (z_wants_a : Nat) (z_wantsMany_a : Nat) (z_st_a : Nat) (z_was_a : Nat) (z_images_a : Nat) (z_isKept_a : Nat) (z_told_a : Nat) (z_text_a : Nat) (z_saidWeight_a : Nat) (z_saidNights_a : Nat) (z_saidWants_a : Nat) (z_saidMany_a : Nat) (z_now_a : Nat) (z_gave_a : Nat) (z_at_a : Nat) (z_way_a : Nat) (z_bestWay_a : Nat) (z_made_a : Nat) (z_people : Int32) (z_known : Int32) (z_toldMany : Int32) (z_trace : Int64) (z_texted : Int32) (z_cursor : Int32) (z_start : Int32) (z_token : Int32) (z_number : Int32) (z_isWrong : Int32) (z_items : Int32) (z_saidPeople : Int32) (z_saidLaw : Int32) (z_ringed : Int32) (z_lumps : Int32) (z_at : Nat → Int32) (z_gave : Nat → Int32) (z_now : Nat → Int32) (x1 : Int32) {ρ : Type} (N : Nat) (k : Int32 → (Nat → Int32) → Option ρ) (res : ρ) (h : f_X8_ringOf N z_at z_gave z_now x1 k = some res) : Ci l yX8_ringOf (WS yX8_ringOf cX8_ringOf 5 (some .int)) rm_X8_ringOf (dC, dI) (tysG cI cZ cQ cW) E0 [.ref z_o, .int x1] (w_X8_ringOf cI cZ cQ cW z_o z_weight_a z_wants_a z_wantsMany_a z_st_a z_was_a z_images_a z_isKept_a z_told_a z_text_a z_saidWeight_a z_saidNights_a z_saidWants_a z_saidMany_a z_now_a z_gave_a z_at_a z_way_a z_bestWay_a z_made_a z_people z_known z_toldMany z_trace z_texted z_cursor z_start z_token z_number z_isWrong z_items z_saidPeople z_saidLaw z_ringed z_lumps z_at z_gave z_now) (fun (u : (Nat → Int32)) => (w_X8_ringOf cI cZ cQ cW z_o z_weight_a z_wants_a z_wantsMany_a z_st_a z_was_a z_images_a z_isKept_a z_told_a z_text_a z_saidWeight_a z_saidNights_a z_saidWants_a z_saidMany_a z_now_a z_gave_a z_at_a z_way_a z_bestWay_a z_made_a z_people z_known z_toldMany z_trace z_texted z_cursor z_start z_token z_number z_isWrong z_items z_saidPeople z_saidLaw z_ringed z_lumps z_at z_gave u)) (fun r u => k r u = some res) := by
  refine Ci.of (cc := cX8_ringOf) (n := 5) (by decide +kernel) (Nat.le_of_ble_eq_true rfl) ?_
  intro p e s m args below meth c A ls Q B hW hE hS hl hQ
  have hx := B.1
  have hb := B.2.1
  have hl : lv_has ls 5 [(0, .ref z_o), (1, .int x1)] := hl
  unfold f_X8_ringOf at h
  refine lv_iconst (pc := 0) (v := 0) hx hb (tb_at tk_X8_ringOf 0 rfl) (by decide) ?_
  refine lv_istore_n (pc := 1) (lv' := [(2, .int 0), (0, .ref z_o), (1, .int x1)]) hx hb (tb_at tk_X8_ringOf 1 rfl) rfl hl (by decide) rfl (fun ls hl => ?_)
  refine lv_iload_n (pc := 2) hx hb (tb_at tk_X8_ringOf 2 rfl) rfl (lv_at hl 2 rfl) ?_
  refine lv_istore_n (pc := 3) (lv' := [(3, .int x1), (2, .int 0), (0, .ref z_o), (1, .int x1)]) hx hb (tb_at tk_X8_ringOf 3 rfl) rfl hl (by decide) rfl (fun ls hl => ?_)
  have w28 : ∀ (y3_e28 : Int32) (H : Heap) (locs : List Loc) (ls : Array Slot), f_X8_ringOf_e28 z_now z_at z_gave k N y3_e28 = some res → PD (dC, dI) A (w_X8_ringOf cI cZ cQ cW z_o z_weight_a z_wants_a z_wantsMany_a z_st_a z_was_a z_images_a z_isKept_a z_told_a z_text_a z_saidWeight_a z_saidNights_a z_saidWants_a z_saidMany_a z_now_a z_gave_a z_at_a z_way_a z_bestWay_a z_made_a z_people z_known z_toldMany z_trace z_texted z_cursor z_start z_token z_number z_isWrong z_items z_saidPeople z_saidLaw z_ringed z_lumps z_at z_gave z_now) H → va_S A s.heap H locs → lv_has ls 5 [(0, .ref z_o), (3, .int y3_e28)] → W p l e rm_X8_ringOf s m args below meth c H locs 0 0 Q (F0 m 28 ls []) := by
    intro y3_e28 H locs ls h hW hS hl
    unfold f_X8_ringOf_e28 at h
    refine lv_iconst (pc := 28) (v := 0) hx hb (tb_at tk_X8_ringOf 20 rfl) (by decide) ?_
    refine lv_istore (pc := 29) (lv' := [(4, .int 0), (0, .ref z_o), (3, .int y3_e28)]) hx hb (tb_at tk_X8_ringOf 21 rfl) hl (by decide) rfl (fun ls hl => ?_)
    have w31 : ∀ (n : Nat), ∀ (y3_l31 : Int32) (y4_l31 : Int32) (z_now_l31 : Nat → Int32) (H : Heap) (locs : List Loc) (ls : Array Slot), f_X8_ringOf_l31 z_at z_gave k N n y3_l31 y4_l31 z_now_l31 = some res → PD (dC, dI) A (w_X8_ringOf cI cZ cQ cW z_o z_weight_a z_wants_a z_wantsMany_a z_st_a z_was_a z_images_a z_isKept_a z_told_a z_text_a z_saidWeight_a z_saidNights_a z_saidWants_a z_saidMany_a z_now_a z_gave_a z_at_a z_way_a z_bestWay_a z_made_a z_people z_known z_toldMany z_trace z_texted z_cursor z_start z_token z_number z_isWrong z_items z_saidPeople z_saidLaw z_ringed z_lumps z_at z_gave z_now_l31) H → va_S A s.heap H locs → lv_has ls 5 [(0, .ref z_o), (3, .int y3_l31), (4, .int y4_l31)] → W p l e rm_X8_ringOf s m args below meth c H locs 0 0 Q (F0 m 31 ls []) := by
      intro n
      induction n with
      | zero => intro y3_l31 y4_l31 z_now_l31 H locs ls h; exact no_n h
      | succ n31 ih31 =>
        intro y3_l31 y4_l31 z_now_l31 H locs ls h hW hS hl
        rw [f_X8_ringOf_l31] at h
        refine lv_iload (pc := 31) hx hb (tb_at tk_X8_ringOf 22 rfl) (lv_at hl 2 rfl) ?_
        refine lv_iload_n (pc := 33) hx hb (tb_at tk_X8_ringOf 23 rfl) rfl (lv_at hl 1 rfl) ?_
        refine k_call0 (pc := 34) B (k_runSi (rest := []) (host := "") B (c_X8_has l dC dI cI cZ cQ cW   y4_l31 y3_l31 N _ res h) E0_st (fun _ _ _ => trivial) q_c_X8_has q_m_X8_113 q_t_X8_has q_n_X8 hd_X8_has ⟨rfl, rfl⟩ ⟨Nat.le_of_ble_eq_true rfl, Nat.le_of_ble_eq_true rfl⟩ hW [] rfl (by decide +kernel) rfl hl.1 rfl (Nat.le_of_ble_eq_true rfl) (tb_at tk_X8_ringOf 24 rfl) ⟨Nat.zero_le _, Nat.zero_le _⟩) hW hS (fun r34 u H locs h hW hS => ?_)
        refine lv_if_ne (pc := 37) (tgt := 77) hx hb (tb_at tk_X8_ringOf 25 rfl) (by decide) (fun cc => ?_) (fun cc => ?_)
        · have h := it_f cc h
          refine lv_iload (pc := 77) hx hb (tb_at tk_X8_ringOf 51 rfl) (lv_at hl 2 rfl) ?_
          exact hQ y4_l31 (z_now_l31) _ _ _ 79 rfl h hW hS (tb_at tk_X8_ringOf 52 rfl)
        · have h := it_t cc h
          refine lv_iload (pc := 40) hx hb (tb_at tk_X8_ringOf 26 rfl) (lv_at hl 2 rfl) ?_
          refine lv_iconst (pc := 42) (v := 1) hx hb (tb_at tk_X8_ringOf 27 rfl) (by decide) ?_
          refine lv_iload_n (pc := 43) hx hb (tb_at tk_X8_ringOf 28 rfl) rfl (lv_at hl 1 rfl) ?_
          refine lv_ishl (pc := 44) hx hb (tb_at tk_X8_ringOf 29 rfl) ?_
          refine lv_ior (pc := 45) hx hb (tb_at tk_X8_ringOf 30 rfl) ?_
          refine lv_istore (pc := 46) (lv' := [(4, .int (y4_l31 ||| ((1 : Int32) <<< (y3_l31 &&& 31)))), (0, .ref z_o), (3, .int y3_l31)]) hx hb (tb_at tk_X8_ringOf 31 rfl) hl (by decide) rfl (fun ls hl => ?_)
          refine lv_aload_n (pc := 48) hx hb (tb_at tk_X8_ringOf 32 rfl) rfl (lv_at hl 1 rfl) ?_
          refine k_get (pc := 49) (v := .ref z_now_a) (T := TX8) B inG8 hW 0 rfl rfl 26 (by decide) q_f_X8_50 rfl rfl (tb_at tk_X8_ringOf 33 rfl) ?_
          refine lv_iconst (pc := 52) (v := 0) hx hb (tb_at tk_X8_ringOf 34 rfl) (by decide) ?_
          refine lv_iload_n (pc := 53) hx hb (tb_at tk_X8_ringOf 35 rfl) rfl (lv_at hl 2 rfl) ?_
          refine lv_iadd (pc := 54) hx hb (tb_at tk_X8_ringOf 36 rfl) ?_
          refine lv_aload_n (pc := 55) hx hb (tb_at tk_X8_ringOf 37 rfl) rfl (lv_at hl 1 rfl) ?_
          refine k_get (pc := 56) (v := .ref z_gave_a) (T := TX8) B inG8 hW 0 rfl rfl 27 (by decide) q_f_X8_53 rfl rfl (tb_at tk_X8_ringOf 38 rfl) ?_
          refine lv_aload_n (pc := 59) hx hb (tb_at tk_X8_ringOf 39 rfl) rfl (lv_at hl 1 rfl) ?_
          refine k_get (pc := 60) (v := .ref z_at_a) (T := TX8) B inG8 hW 0 rfl rfl 28 (by decide) q_f_X8_56 rfl rfl (tb_at tk_X8_ringOf 40 rfl) ?_
          refine lv_iload_n (pc := 63) hx hb (tb_at tk_X8_ringOf 41 rfl) rfl (lv_at hl 2 rfl) ?_
          have ii := ivi_in (ck_l h)
          have h := ck_r h
          refine k_iald (pc := 64) B hW 1 0 rfl rfl ii (tb_at tk_X8_ringOf 42 rfl) ?_
          have ii := ivi_in (ck_l h)
          have h := ck_r h
          refine k_iald (pc := 65) B hW 2 0 rfl rfl ii (tb_at tk_X8_ringOf 43 rfl) ?_
          have ii := ivi_in (ck_l h)
          have h := ck_r h
          refine k_iast (pc := 66) B hW hS 3 0 rfl rfl ii (tb_at tk_X8_ringOf 44 rfl) (w_X8_ringOf cI cZ cQ cW z_o z_weight_a z_wants_a z_wantsMany_a z_st_a z_was_a z_images_a z_isKept_a z_told_a z_text_a z_saidWeight_a z_saidNights_a z_saidWants_a z_saidMany_a z_now_a z_gave_a z_at_a z_way_a z_bestWay_a z_made_a z_people z_known z_toldMany z_trace z_texted z_cursor z_start z_token z_number z_isWrong z_items z_saidPeople z_saidLaw z_ringed z_lumps z_at z_gave (upd z_now_l31 ((0 : Int32) + y3_l31).toNatClampNeg (z_gave (z_at (y3_l31).toNatClampNeg).toNatClampNeg))) rfl (fun H locs hW hS => ?_)
          refine lv_aload_n (pc := 67) hx hb (tb_at tk_X8_ringOf 45 rfl) rfl (lv_at hl 1 rfl) ?_
          refine k_get (pc := 68) (v := .ref z_at_a) (T := TX8) B inG8 hW 0 rfl rfl 28 (by decide) q_f_X8_56 rfl rfl (tb_at tk_X8_ringOf 46 rfl) ?_
          refine lv_iload_n (pc := 71) hx hb (tb_at tk_X8_ringOf 47 rfl) rfl (lv_at hl 2 rfl) ?_
          have ii := ivi_in (ck_l h)
          have h := ck_r h
          refine k_iald (pc := 72) B hW 1 0 rfl rfl ii (tb_at tk_X8_ringOf 48 rfl) ?_
          refine lv_istore_n (pc := 73) (lv' := [(3, .int (z_at (y3_l31).toNatClampNeg)), (4, .int (y4_l31 ||| ((1 : Int32) <<< (y3_l31 &&& 31)))), (0, .ref z_o)]) hx hb (tb_at tk_X8_ringOf 49 rfl) rfl hl (by decide) rfl (fun ls hl => ?_)
          refine lv_goto (pc := 74) (tgt := 31) hx hb (tb_at tk_X8_ringOf 50 rfl) (by decide) ?_
          exact ih31 (z_at (y3_l31).toNatClampNeg) (y4_l31 ||| ((1 : Int32) <<< (y3_l31 &&& 31))) (upd z_now_l31 ((0 : Int32) + y3_l31).toNatClampNeg (z_gave (z_at (y3_l31).toNatClampNeg).toNatClampNeg)) _ _ _ h hW hS (lv_sub hl [2, 0, 1] rfl)
    exact w31 N y3_e28 0 z_now _ _ _ h hW hS (lv_sub hl [1, 2, 0] rfl)
  have w4 : ∀ (n : Nat), ∀ (y2_l4 : Int32) (y3_l4 : Int32) (H : Heap) (locs : List Loc) (ls : Array Slot), f_X8_ringOf_l4 z_at (fun y3_e28 => f_X8_ringOf_e28 z_now z_at z_gave k N y3_e28) N n y2_l4 y3_l4 = some res → PD (dC, dI) A (w_X8_ringOf cI cZ cQ cW z_o z_weight_a z_wants_a z_wantsMany_a z_st_a z_was_a z_images_a z_isKept_a z_told_a z_text_a z_saidWeight_a z_saidNights_a z_saidWants_a z_saidMany_a z_now_a z_gave_a z_at_a z_way_a z_bestWay_a z_made_a z_people z_known z_toldMany z_trace z_texted z_cursor z_start z_token z_number z_isWrong z_items z_saidPeople z_saidLaw z_ringed z_lumps z_at z_gave z_now) H → va_S A s.heap H locs → lv_has ls 5 [(0, .ref z_o), (2, .int y2_l4), (3, .int y3_l4)] → W p l e rm_X8_ringOf s m args below meth c H locs 0 0 Q (F0 m 4 ls []) := by
    intro n
    induction n with
    | zero => intro y2_l4 y3_l4 H locs ls h; exact no_n h
    | succ n4 ih4 =>
      intro y2_l4 y3_l4 H locs ls h hW hS hl
      rw [f_X8_ringOf_l4] at h
      refine lv_iload_n (pc := 4) hx hb (tb_at tk_X8_ringOf 4 rfl) rfl (lv_at hl 1 rfl) ?_
      refine lv_iload_n (pc := 5) hx hb (tb_at tk_X8_ringOf 5 rfl) rfl (lv_at hl 2 rfl) ?_
      refine k_call0 (pc := 6) B (k_runSi (rest := []) (host := "") B (c_X8_has l dC dI cI cZ cQ cW   y2_l4 y3_l4 N _ res h) E0_st (fun _ _ _ => trivial) q_c_X8_has q_m_X8_113 q_t_X8_has q_n_X8 hd_X8_has ⟨rfl, rfl⟩ ⟨Nat.le_of_ble_eq_true rfl, Nat.le_of_ble_eq_true rfl⟩ hW [] rfl (by decide +kernel) rfl hl.1 rfl (Nat.le_of_ble_eq_true rfl) (tb_at tk_X8_ringOf 6 rfl) ⟨Nat.zero_le _, Nat.zero_le _⟩) hW hS (fun r6 u H locs h hW hS => ?_)
      refine lv_if_ne (pc := 9) (tgt := 28) hx hb (tb_at tk_X8_ringOf 7 rfl) (by decide) (fun cc => ?_) (fun cc => ?_)
      · have h := it_f cc h
        exact w28 y3_l4 _ _ _ h hW hS (lv_sub hl [0, 2] rfl)
      · have h := it_t cc h
        refine lv_iload_n (pc := 12) hx hb (tb_at tk_X8_ringOf 8 rfl) rfl (lv_at hl 1 rfl) ?_
        refine lv_iconst (pc := 13) (v := 1) hx hb (tb_at tk_X8_ringOf 9 rfl) (by decide) ?_
        refine lv_iload_n (pc := 14) hx hb (tb_at tk_X8_ringOf 10 rfl) rfl (lv_at hl 2 rfl) ?_
        refine lv_ishl (pc := 15) hx hb (tb_at tk_X8_ringOf 11 rfl) ?_
        refine lv_ior (pc := 16) hx hb (tb_at tk_X8_ringOf 12 rfl) ?_
        refine lv_istore_n (pc := 17) (lv' := [(2, .int (y2_l4 ||| ((1 : Int32) <<< (y3_l4 &&& 31)))), (0, .ref z_o), (3, .int y3_l4)]) hx hb (tb_at tk_X8_ringOf 13 rfl) rfl hl (by decide) rfl (fun ls hl => ?_)
        refine lv_aload_n (pc := 18) hx hb (tb_at tk_X8_ringOf 14 rfl) rfl (lv_at hl 1 rfl) ?_
        refine k_get (pc := 19) (v := .ref z_at_a) (T := TX8) B inG8 hW 0 rfl rfl 28 (by decide) q_f_X8_56 rfl rfl (tb_at tk_X8_ringOf 15 rfl) ?_
        refine lv_iload_n (pc := 22) hx hb (tb_at tk_X8_ringOf 16 rfl) rfl (lv_at hl 2 rfl) ?_
        have ii := ivi_in (ck_l h)
        have h := ck_r h
        refine k_iald (pc := 23) B hW 1 0 rfl rfl ii (tb_at tk_X8_ringOf 17 rfl) ?_
        refine lv_istore_n (pc := 24) (lv' := [(3, .int (z_at (y3_l4).toNatClampNeg)), (2, .int (y2_l4 ||| ((1 : Int32) <<< (y3_l4 &&& 31)))), (0, .ref z_o)]) hx hb (tb_at tk_X8_ringOf 18 rfl) rfl hl (by decide) rfl (fun ls hl => ?_)
        refine lv_goto (pc := 25) (tgt := 4) hx hb (tb_at tk_X8_ringOf 19 rfl) (by decide) ?_
        exact ih4 (y2_l4 ||| ((1 : Int32) <<< (y3_l4 &&& 31))) (z_at (y3_l4).toNatClampNeg) _ _ _ h hW hS (lv_sub hl [2, 1, 0] rfl)
  exact w4 N 0 x1 _ _ _ h hW hS (lv_sub hl [2, 1, 0] rfl)
def f_X8_goesBy_j180 {ρ : Type} (y3_l59 : Int32) (z_at_e135 : Nat → Int32) (s0_j153 : Int32) (kb59 : Int32 → Int32 → Int32 → (Nat → Int32) → (Nat → Int32) → Option ρ) (z_ringed_j180 : Int32) (z_lumps_j180 : Int32) (z_now_j180 : Nat → Int32) : Option ρ := kb59 (y3_l59 &&& (s0_j153 ^^^ (-1))) z_ringed_j180 z_lumps_j180 z_now_j180 z_at_e135
def f_X8_goesBy_j153 {ρ : Type} (z_weight : Nat → Int32) (z_gave_e59 : Nat → Int32) (y3_l59 : Int32) (z_ringed_l59 : Int32) (z_lumps_l59 : Int32) (y4_e135 : Int32) (z_at_e135 : Nat → Int32) (kb59 : Int32 → Int32 → Int32 → (Nat → Int32) → (Nat → Int32) → Option ρ) (N : Nat) (z_now_j153 : Nat → Int32) (s0_j153 : Int32) : Option ρ := if y4_e135 < 0 then (f_X8_goesBy_j180 y3_l59 z_at_e135 s0_j153 kb59 (z_ringed_l59 ||| s0_j153) z_lumps_l59 z_now_j153) else (f_X8_isLump N z_lumps_l59 z_now_j153 z_gave_e59 z_weight y4_e135 (fun z_lumps_163 z_now_163 => f_X8_goesBy_j180 y3_l59 z_at_e135 s0_j153 kb59 z_ringed_l59 z_lumps_163 z_now_163))
def f_X8_goesBy_e135 {ρ : Type} (z_weight : Nat → Int32) (z_gave_e59 : Nat → Int32) (y3_l59 : Int32) (z_ringed_l59 : Int32) (z_lumps_l59 : Int32) (z_now_l59 : Nat → Int32) (kb59 : Int32 → Int32 → Int32 → (Nat → Int32) → (Nat → Int32) → Option ρ) (N : Nat) (y4_e135 : Int32) (y5_e135 : Int32) (z_at_e135 : Nat → Int32) : Option ρ := if 0 ≤ y4_e135 then (f_X8_goesBy_j153 z_weight z_gave_e59 y3_l59 z_ringed_l59 z_lumps_l59 y4_e135 z_at_e135 kb59 N z_now_l59 ((1 : Int32) <<< (y4_e135 &&& 31))) else (f_X8_ringOf N z_at_e135 z_gave_e59 z_now_l59 y5_e135 (fun r143 z_now_143 => f_X8_goesBy_j153 z_weight z_gave_e59 y3_l59 z_ringed_l59 z_lumps_l59 y4_e135 z_at_e135 kb59 N z_now_143 r143))
def f_X8_goesBy_j123 {ρ : Type} (y6_l77 : Int32) (z_at_l77 : Nat → Int32) (r102 : Int32) (kb77 : Int32 → Int32 → Int32 → (Nat → Int32) → Option ρ) (s0_j123 : Int32) : Option ρ := kb77 s0_j123 y6_l77 (y6_l77 + (-1)) (upd z_at_l77 (y6_l77).toNatClampNeg r102)
def f_X8_goesBy_l77 {ρ : Type} (x2 : Int32) (z_people : Int32) (z_wantsMany : Nat → Int32) (z_wants : Nat → Int32) (z_weight : Nat → Int32) (z_gave_e59 : Nat → Int32) (y3_l59 : Int32) (k135 : Int32 → Int32 → (Nat → Int32) → Option ρ) (N : Nat) : Nat → Int32 → Int32 → Int32 → (Nat → Int32) → Option ρ
  | 0, _, _, _, _ => none
  | n77 + 1, y4_l77, y5_l77, y6_l77, z_at_l77 => if y6_l77 < 0 then (k135 y4_l77 y5_l77 z_at_l77) else (f_X8_has N y3_l59 y6_l77 (fun r85 => if r85 = 0 then ((f_X8_goesBy_l77 x2 z_people z_wantsMany z_wants z_weight z_gave_e59 y3_l59 k135 N n77) y4_l77 y5_l77 (y6_l77 + (-1)) z_at_l77) else (f_X8_pointsAt N z_people z_wantsMany z_wants z_gave_e59 z_weight y6_l77 y3_l59 x2 (fun r102 => ck (ivi y6_l77 6) (ck (ivi y6_l77 6) (if 0 ≤ ((upd z_at_l77 (y6_l77).toNatClampNeg r102) (y6_l77).toNatClampNeg) then (f_X8_goesBy_j123 y6_l77 z_at_l77 r102 (f_X8_goesBy_l77 x2 z_people z_wantsMany z_wants z_weight z_gave_e59 y3_l59 k135 N n77) y4_l77) else (f_X8_goesBy_j123 y6_l77 z_at_l77 r102 (f_X8_goesBy_l77 x2 z_people z_wantsMany z_wants z_weight z_gave_e59 y3_l59 k135 N n77) y6_l77)))))))
def f_X8_goesBy_l59 {ρ : Type} (x2 : Int32) (z_people : Int32) (z_wantsMany : Nat → Int32) (z_wants : Nat → Int32) (z_weight : Nat → Int32) (z_gave_e59 : Nat → Int32) (k : Int32 → Int32 → (Nat → Int32) → (Nat → Int32) → (Nat → Int32) → Option ρ) (N : Nat) : Nat → Int32 → Int32 → Int32 → (Nat → Int32) → (Nat → Int32) → Option ρ
  | 0, _, _, _, _, _ => none
  | n59 + 1, y3_l59, z_ringed_l59, z_lumps_l59, z_now_l59, z_at_l59 => if y3_l59 = 0 then (k z_ringed_l59 z_lumps_l59 z_now_l59 z_gave_e59 z_at_l59) else (f_X8_goesBy_l77 x2 z_people z_wantsMany z_wants z_weight z_gave_e59 y3_l59 (fun y4_e135 y5_e135 z_at_e135 => f_X8_goesBy_e135 z_weight z_gave_e59 y3_l59 z_ringed_l59 z_lumps_l59 z_now_l59 (f_X8_goesBy_l59 x2 z_people z_wantsMany z_wants z_weight z_gave_e59 k N n59) N y4_e135 y5_e135 z_at_e135) N N (-1) (-1) (z_people - 1) z_at_l59)
def f_X8_goesBy_e59 {ρ : Type} (x1 : Int32) (x2 : Int32) (z_at : Nat → Int32) (z_now : Nat → Int32) (z_people : Int32) (z_wantsMany : Nat → Int32) (z_wants : Nat → Int32) (z_weight : Nat → Int32) (k : Int32 → Int32 → (Nat → Int32) → (Nat → Int32) → (Nat → Int32) → Option ρ) (N : Nat) (z_gave_e59 : Nat → Int32) : Option ρ := f_X8_goesBy_l59 x2 z_people z_wantsMany z_wants z_weight z_gave_e59 k N N x1 0 0 z_now z_at
def f_X8_goesBy_l15 {ρ : Type} (x1 : Int32) (z_now : Nat → Int32) (z_people : Int32) (k59 : (Nat → Int32) → Option ρ) (N : Nat) : Nat → Int32 → (Nat → Int32) → Option ρ
  | 0, _, _ => none
  | n15 + 1, y4_l15, z_gave_l15 => if z_people ≤ y4_l15 then (k59 z_gave_l15) else (f_X8_has N x1 y4_l15 (fun r33 => if r33 = 0 then (ck (ivi y4_l15 6) ((f_X8_goesBy_l15 x1 z_now z_people k59 N n15) (y4_l15 + 1) (upd z_gave_l15 (y4_l15).toNatClampNeg (-1)))) else (ck (ivi ((0 : Int32) + y4_l15) 25) (ck (ivi y4_l15 6) ((f_X8_goesBy_l15 x1 z_now z_people k59 N n15) (y4_l15 + 1) (upd z_gave_l15 (y4_l15).toNatClampNeg (z_now ((0 : Int32) + y4_l15).toNatClampNeg)))))))
def f_X8_goesBy {ρ : Type} (N : Nat) (z_people : Int32) (z_now : Nat → Int32) (z_gave : Nat → Int32) (z_wantsMany : Nat → Int32) (z_wants : Nat → Int32) (z_weight : Nat → Int32) (z_at : Nat → Int32) (x1 : Int32) (x2 : Int32) (k : Int32 → Int32 → (Nat → Int32) → (Nat → Int32) → (Nat → Int32) → Option ρ) : Option ρ := f_X8_goesBy_l15 x1 z_now z_people (fun z_gave_e59 => f_X8_goesBy_e59 x1 x2 z_at z_now z_people z_wantsMany z_wants z_weight k N z_gave_e59) N N 0 z_gave
abbrev w_X8_goesBy (cI cZ cQ cW : ClassId) (z_o : Nat) (z_weight_a : Nat) (z_wants_a : Nat) (z_wantsMany_a : Nat) (z_st_a : Nat) (z_was_a : Nat) (z_images_a : Nat) (z_isKept_a : Nat) (z_told_a : Nat) (z_text_a : Nat) (z_saidWeight_a : Nat) (z_saidNights_a : Nat) (z_saidWants_a : Nat) (z_saidMany_a : Nat) (z_now_a : Nat) (z_gave_a : Nat) (z_at_a : Nat) (z_way_a : Nat) (z_bestWay_a : Nat) (z_made_a : Nat) (z_people : Int32) (z_known : Int32) (z_toldMany : Int32) (z_trace : Int64) (z_texted : Int32) (z_cursor : Int32) (z_start : Int32) (z_token : Int32) (z_number : Int32) (z_isWrong : Int32) (z_items : Int32) (z_saidPeople : Int32) (z_saidLaw : Int32) (z_ringed : Int32) (z_lumps : Int32) (z_now : Nat → Int32) (z_gave : Nat → Int32) (z_wantsMany : Nat → Int32) (z_wants : Nat → Int32) (z_weight : Nat → Int32) (z_at : Nat → Int32) : va_W := [(z_o, .inr (8, [.int z_people, .ref z_weight_a, .ref z_wants_a, .ref z_wantsMany_a, .ref z_st_a, .ref z_was_a, .int z_known, .ref z_images_a, .ref z_isKept_a, .int z_toldMany, .ref z_told_a, .long z_trace, .ref z_text_a, .int z_texted, .int z_cursor, .int z_start, .int z_token, .int z_number, .int z_isWrong, .int z_items, .int z_saidPeople, .ref z_saidWeight_a, .ref z_saidNights_a, .ref z_saidWants_a, .ref z_saidMany_a, .int z_saidLaw, .ref z_now_a, .ref z_gave_a, .ref z_at_a, .int z_ringed, .int z_lumps, .ref z_way_a, .ref z_bestWay_a, .ref z_made_a])), (z_now_a, .inl (cI, 25, .inl z_now)), (z_gave_a, .inl (cI, 6, .inl z_gave)), (z_wantsMany_a, .inl (cI, 6, .inl z_wantsMany)), (z_wants_a, .inl (cI, 24, .inl z_wants)), (z_weight_a, .inl (cI, 6, .inl z_weight)), (z_at_a, .inl (cI, 6, .inl z_at))]
abbrev rm_X8_goesBy : Room := { frames := 3, cells := 0, slots := 0, locals := 75 }
set_option maxHeartbeats 4000000 in
set_option maxRecDepth 100000 in
theorem c_X8_goesBy (l : Launch) (dC : Nat → ClassId) (dI : Nat → Nat → Nat) (cI cZ cQ cW : ClassId) (z_o : Nat) (z_weight_a : Nat) (z_wants_a : Nat) (z_wantsMany_a : Nat) (z_st_a : Nat) (z_was_a : Nat) (z_images_a : Nat) (z_isKept_a : Nat) (z_told_a : Nat) (z_text_a : Nat) (z_saidWeight_a : Nat) (z_saidNights_a : Nat) (z_saidWants_a : Nat) (z_saidMany_a : Nat) (z_now_a : Nat) (z_gave_a : Nat) (z_at_a : Nat) (z_way_a : Nat) (z_bestWay_a : Nat) (z_made_a : Nat) (z_people : Int32) (z_known : Int32) (z_toldMany : Int32) (z_trace : Int64) (z_texted : Int32) (z_cursor : Int32) (z_start : Int32) (z_token : Int32) (z_number : Int32) (z_isWrong : Int32) (z_items : Int32) (z_saidPeople : Int32) (z_saidLaw : Int32) (z_ringed : Int32) (z_lumps : Int32) (z_now : Nat → Int32) (z_gave : Nat → Int32) (z_wantsMany : Nat → Int32) (z_wants : Nat → Int32) (z_weight : Nat → Int32) (z_at : Nat → Int32) (x1 : Int32) (x2 : Int32) {ρ : Type} (N : Nat) (k : Int32 → Int32 → (Nat → Int32) → (Nat → Int32) → (Nat → Int32) → Option ρ) (res : ρ) (h : f_X8_goesBy N z_people z_now z_gave z_wantsMany z_wants z_weight z_at x1 x2 k = some res) : Cv l yX8_goesBy (WS yX8_goesBy cX8_goesBy 7 none) rm_X8_goesBy (dC, dI) (tysG cI cZ cQ cW) E0 [.ref z_o, .int x1, .int x2] (w_X8_goesBy cI cZ cQ cW z_o z_weight_a z_wants_a z_wantsMany_a z_st_a z_was_a z_images_a z_isKept_a z_told_a z_text_a z_saidWeight_a z_saidNights_a z_saidWants_a z_saidMany_a z_now_a z_gave_a z_at_a z_way_a z_bestWay_a z_made_a z_people z_known z_toldMany z_trace z_texted z_cursor z_start z_token z_number z_isWrong z_items z_saidPeople z_saidLaw z_ringed z_lumps z_now z_gave z_wantsMany z_wants z_weight z_at) (fun (u : Int32 × Int32 × (Nat → Int32) × (Nat → Int32) × (Nat → Int32)) => (w_X8_goesBy cI cZ cQ cW z_o z_weight_a z_wants_a z_wantsMany_a z_st_a z_was_a z_images_a z_isKept_a z_told_a z_text_a z_saidWeight_a z_saidNights_a z_saidWants_a z_saidMany_a z_now_a z_gave_a z_at_a z_way_a z_bestWay_a z_made_a z_people z_known z_toldMany z_trace z_texted z_cursor z_start z_token z_number z_isWrong z_items z_saidPeople z_saidLaw u.1 u.2.1 u.2.2.1 u.2.2.2.1 z_wantsMany z_wants z_weight u.2.2.2.2)) (fun u => k u.1 u.2.1 u.2.2.1 u.2.2.2.1 u.2.2.2.2 = some res) := by
  refine Cv.of (cc := cX8_goesBy) (n := 7) (by decide +kernel) (Nat.le_of_ble_eq_true rfl) ?_
  intro p e s m args below meth c A ls Q B hW hE hS hl hQ
  have hx := B.1
  have hb := B.2.1
  have hl : lv_has ls 7 [(0, .ref z_o), (1, .int x1), (2, .int x2)] := hl
  unfold f_X8_goesBy at h
  refine lv_iload_n (pc := 0) hx hb (tb_at tk_X8_goesBy 0 rfl) rfl (lv_at hl 1 rfl) ?_
  refine lv_istore_n (pc := 1) (lv' := [(3, .int x1), (0, .ref z_o), (1, .int x1), (2, .int x2)]) hx hb (tb_at tk_X8_goesBy 1 rfl) rfl hl (by decide) rfl (fun ls hl => ?_)
  refine lv_aload_n (pc := 2) hx hb (tb_at tk_X8_goesBy 2 rfl) rfl (lv_at hl 1 rfl) ?_
  refine lv_iconst (pc := 3) (v := 0) hx hb (tb_at tk_X8_goesBy 3 rfl) (by decide) ?_
  refine k_put (pc := 4) (T := TX8) B inG8 tyX8 tyX8_ok nmX8 hW hS 0 rfl rfl 29 (by decide) q_f_X8_155 rfl rfl rfl rfl (Nat.le_of_ble_eq_true rfl) (tb_at tk_X8_goesBy 4 rfl) (w_X8_goesBy cI cZ cQ cW z_o z_weight_a z_wants_a z_wantsMany_a z_st_a z_was_a z_images_a z_isKept_a z_told_a z_text_a z_saidWeight_a z_saidNights_a z_saidWants_a z_saidMany_a z_now_a z_gave_a z_at_a z_way_a z_bestWay_a z_made_a z_people z_known z_toldMany z_trace z_texted z_cursor z_start z_token z_number z_isWrong z_items z_saidPeople z_saidLaw 0 z_lumps z_now z_gave z_wantsMany z_wants z_weight z_at) rfl (fun H locs hW hS => ?_)
  refine lv_aload_n (pc := 7) hx hb (tb_at tk_X8_goesBy 5 rfl) rfl (lv_at hl 1 rfl) ?_
  refine lv_iconst (pc := 8) (v := 0) hx hb (tb_at tk_X8_goesBy 6 rfl) (by decide) ?_
  refine k_put (pc := 9) (T := TX8) B inG8 tyX8 tyX8_ok nmX8 hW hS 0 rfl rfl 30 (by decide) q_f_X8_152 rfl rfl rfl rfl (Nat.le_of_ble_eq_true rfl) (tb_at tk_X8_goesBy 7 rfl) (w_X8_goesBy cI cZ cQ cW z_o z_weight_a z_wants_a z_wantsMany_a z_st_a z_was_a z_images_a z_isKept_a z_told_a z_text_a z_saidWeight_a z_saidNights_a z_saidWants_a z_saidMany_a z_now_a z_gave_a z_at_a z_way_a z_bestWay_a z_made_a z_people z_known z_toldMany z_trace z_texted z_cursor z_start z_token z_number z_isWrong z_items z_saidPeople z_saidLaw 0 0 z_now z_gave z_wantsMany z_wants z_weight z_at) rfl (fun H locs hW hS => ?_)
  refine lv_iconst (pc := 12) (v := 0) hx hb (tb_at tk_X8_goesBy 8 rfl) (by decide) ?_
  refine lv_istore (pc := 13) (lv' := [(4, .int 0), (3, .int x1), (0, .ref z_o), (1, .int x1), (2, .int x2)]) hx hb (tb_at tk_X8_goesBy 9 rfl) hl (by decide) rfl (fun ls hl => ?_)
  have w59 : ∀ (z_gave_e59 : Nat → Int32) (H : Heap) (locs : List Loc) (ls : Array Slot), f_X8_goesBy_e59 x1 x2 z_at z_now z_people z_wantsMany z_wants z_weight k N z_gave_e59 = some res → PD (dC, dI) A (w_X8_goesBy cI cZ cQ cW z_o z_weight_a z_wants_a z_wantsMany_a z_st_a z_was_a z_images_a z_isKept_a z_told_a z_text_a z_saidWeight_a z_saidNights_a z_saidWants_a z_saidMany_a z_now_a z_gave_a z_at_a z_way_a z_bestWay_a z_made_a z_people z_known z_toldMany z_trace z_texted z_cursor z_start z_token z_number z_isWrong z_items z_saidPeople z_saidLaw 0 0 z_now z_gave_e59 z_wantsMany z_wants z_weight z_at) H → va_S A s.heap H locs → lv_has ls 7 [(0, .ref z_o), (2, .int x2), (3, .int x1)] → W p l e rm_X8_goesBy s m args below meth c H locs 0 0 Q (F0 m 59 ls []) := by
    intro z_gave_e59 H locs ls h hW hS hl
    unfold f_X8_goesBy_e59 at h
    have w59 : ∀ (n : Nat), ∀ (y3_l59 : Int32) (z_ringed_l59 : Int32) (z_lumps_l59 : Int32) (z_now_l59 : Nat → Int32) (z_at_l59 : Nat → Int32) (H : Heap) (locs : List Loc) (ls : Array Slot), f_X8_goesBy_l59 x2 z_people z_wantsMany z_wants z_weight z_gave_e59 k N n y3_l59 z_ringed_l59 z_lumps_l59 z_now_l59 z_at_l59 = some res → PD (dC, dI) A (w_X8_goesBy cI cZ cQ cW z_o z_weight_a z_wants_a z_wantsMany_a z_st_a z_was_a z_images_a z_isKept_a z_told_a z_text_a z_saidWeight_a z_saidNights_a z_saidWants_a z_saidMany_a z_now_a z_gave_a z_at_a z_way_a z_bestWay_a z_made_a z_people z_known z_toldMany z_trace z_texted z_cursor z_start z_token z_number z_isWrong z_items z_saidPeople z_saidLaw z_ringed_l59 z_lumps_l59 z_now_l59 z_gave_e59 z_wantsMany z_wants z_weight z_at_l59) H → va_S A s.heap H locs → lv_has ls 7 [(0, .ref z_o), (2, .int x2), (3, .int y3_l59)] → W p l e rm_X8_goesBy s m args below meth c H locs 0 0 Q (F0 m 59 ls []) := by
      intro n
      induction n with
      | zero => intro y3_l59 z_ringed_l59 z_lumps_l59 z_now_l59 z_at_l59 H locs ls h; exact no_n h
      | succ n59 ih59 =>
        intro y3_l59 z_ringed_l59 z_lumps_l59 z_now_l59 z_at_l59 H locs ls h hW hS hl
        rw [f_X8_goesBy_l59] at h
        refine lv_iload_n (pc := 59) hx hb (tb_at tk_X8_goesBy 32 rfl) rfl (lv_at hl 2 rfl) ?_
        refine lv_if_eq (pc := 60) (tgt := 190) hx hb (tb_at tk_X8_goesBy 33 rfl) (by decide) (fun cc => ?_) (fun cc => ?_)
        · have h := it_t cc h
          exact hQ (z_ringed_l59, z_lumps_l59, z_now_l59, z_gave_e59, z_at_l59) _ _ _ 190 h hW hS (tb_at tk_X8_goesBy 100 rfl)
        · have h := it_f cc h
          refine lv_iconst (pc := 63) (v := (-1)) hx hb (tb_at tk_X8_goesBy 34 rfl) (by decide) ?_
          refine lv_istore (pc := 64) (lv' := [(4, .int (-1)), (0, .ref z_o), (2, .int x2), (3, .int y3_l59)]) hx hb (tb_at tk_X8_goesBy 35 rfl) hl (by decide) rfl (fun ls hl => ?_)
          refine lv_iconst (pc := 66) (v := (-1)) hx hb (tb_at tk_X8_goesBy 36 rfl) (by decide) ?_
          refine lv_istore (pc := 67) (lv' := [(5, .int (-1)), (4, .int (-1)), (0, .ref z_o), (2, .int x2), (3, .int y3_l59)]) hx hb (tb_at tk_X8_goesBy 37 rfl) hl (by decide) rfl (fun ls hl => ?_)
          refine lv_aload_n (pc := 69) hx hb (tb_at tk_X8_goesBy 38 rfl) rfl (lv_at hl 2 rfl) ?_
          refine k_get (pc := 70) (v := .int z_people) (T := TX8) B inG8 hW 0 rfl rfl 0 (by decide) q_f_X8_68 rfl rfl (tb_at tk_X8_goesBy 39 rfl) ?_
          refine lv_iconst (pc := 73) (v := 1) hx hb (tb_at tk_X8_goesBy 40 rfl) (by decide) ?_
          refine lv_isub (pc := 74) hx hb (tb_at tk_X8_goesBy 41 rfl) ?_
          refine lv_istore (pc := 75) (lv' := [(6, .int (z_people - 1)), (5, .int (-1)), (4, .int (-1)), (0, .ref z_o), (2, .int x2), (3, .int y3_l59)]) hx hb (tb_at tk_X8_goesBy 42 rfl) hl (by decide) rfl (fun ls hl => ?_)
          have w135 : ∀ (y4_e135 : Int32) (y5_e135 : Int32) (z_at_e135 : Nat → Int32) (H : Heap) (locs : List Loc) (ls : Array Slot), f_X8_goesBy_e135 z_weight z_gave_e59 y3_l59 z_ringed_l59 z_lumps_l59 z_now_l59 (f_X8_goesBy_l59 x2 z_people z_wantsMany z_wants z_weight z_gave_e59 k N n59) N y4_e135 y5_e135 z_at_e135 = some res → PD (dC, dI) A (w_X8_goesBy cI cZ cQ cW z_o z_weight_a z_wants_a z_wantsMany_a z_st_a z_was_a z_images_a z_isKept_a z_told_a z_text_a z_saidWeight_a z_saidNights_a z_saidWants_a z_saidMany_a z_now_a z_gave_a z_at_a z_way_a z_bestWay_a z_made_a z_people z_known z_toldMany z_trace z_texted z_cursor z_start z_token z_number z_isWrong z_items z_saidPeople z_saidLaw z_ringed_l59 z_lumps_l59 z_now_l59 z_gave_e59 z_wantsMany z_wants z_weight z_at_e135) H → va_S A s.heap H locs → lv_has ls 7 [(0, .ref z_o), (2, .int x2), (3, .int y3_l59), (4, .int y4_e135), (5, .int y5_e135)] → W p l e rm_X8_goesBy s m args below meth c H locs 0 0 Q (F0 m 135 ls []) := by
            intro y4_e135 y5_e135 z_at_e135 H locs ls h hW hS hl
            unfold f_X8_goesBy_e135 at h
            refine lv_iload (pc := 135) hx hb (tb_at tk_X8_goesBy 71 rfl) (lv_at hl 3 rfl) ?_
            have w153 : ∀ (z_now_j153 : Nat → Int32) (s0_j153 : Int32) (H : Heap) (locs : List Loc) (ls : Array Slot), f_X8_goesBy_j153 z_weight z_gave_e59 y3_l59 z_ringed_l59 z_lumps_l59 y4_e135 z_at_e135 (f_X8_goesBy_l59 x2 z_people z_wantsMany z_wants z_weight z_gave_e59 k N n59) N z_now_j153 s0_j153 = some res → PD (dC, dI) A (w_X8_goesBy cI cZ cQ cW z_o z_weight_a z_wants_a z_wantsMany_a z_st_a z_was_a z_images_a z_isKept_a z_told_a z_text_a z_saidWeight_a z_saidNights_a z_saidWants_a z_saidMany_a z_now_a z_gave_a z_at_a z_way_a z_bestWay_a z_made_a z_people z_known z_toldMany z_trace z_texted z_cursor z_start z_token z_number z_isWrong z_items z_saidPeople z_saidLaw z_ringed_l59 z_lumps_l59 z_now_j153 z_gave_e59 z_wantsMany z_wants z_weight z_at_e135) H → va_S A s.heap H locs → lv_has ls 7 [(0, .ref z_o), (2, .int x2), (3, .int y3_l59), (4, .int y4_e135)] → W p l e rm_X8_goesBy s m args below meth c H locs 0 0 Q (F0 m 153 ls [.int s0_j153]) := by
              intro z_now_j153 s0_j153 H locs ls h hW hS hl
              unfold f_X8_goesBy_j153 at h
              refine lv_istore (pc := 153) (lv' := [(6, .int s0_j153), (0, .ref z_o), (2, .int x2), (3, .int y3_l59), (4, .int y4_e135)]) hx hb (tb_at tk_X8_goesBy 80 rfl) hl (by decide) rfl (fun ls hl => ?_)
              refine lv_iload (pc := 155) hx hb (tb_at tk_X8_goesBy 81 rfl) (lv_at hl 4 rfl) ?_
              have w180 : ∀ (z_ringed_j180 : Int32) (z_lumps_j180 : Int32) (z_now_j180 : Nat → Int32) (H : Heap) (locs : List Loc) (ls : Array Slot), f_X8_goesBy_j180 y3_l59 z_at_e135 s0_j153 (f_X8_goesBy_l59 x2 z_people z_wantsMany z_wants z_weight z_gave_e59 k N n59) z_ringed_j180 z_lumps_j180 z_now_j180 = some res → PD (dC, dI) A (w_X8_goesBy cI cZ cQ cW z_o z_weight_a z_wants_a z_wantsMany_a z_st_a z_was_a z_images_a z_isKept_a z_told_a z_text_a z_saidWeight_a z_saidNights_a z_saidWants_a z_saidMany_a z_now_a z_gave_a z_at_a z_way_a z_bestWay_a z_made_a z_people z_known z_toldMany z_trace z_texted z_cursor z_start z_token z_number z_isWrong z_items z_saidPeople z_saidLaw z_ringed_j180 z_lumps_j180 z_now_j180 z_gave_e59 z_wantsMany z_wants z_weight z_at_e135) H → va_S A s.heap H locs → lv_has ls 7 [(0, .ref z_o), (2, .int x2), (3, .int y3_l59), (6, .int s0_j153)] → W p l e rm_X8_goesBy s m args below meth c H locs 0 0 Q (F0 m 180 ls []) := by
                intro z_ringed_j180 z_lumps_j180 z_now_j180 H locs ls h hW hS hl
                unfold f_X8_goesBy_j180 at h
                refine lv_iload_n (pc := 180) hx hb (tb_at tk_X8_goesBy 93 rfl) rfl (lv_at hl 2 rfl) ?_
                refine lv_iload (pc := 181) hx hb (tb_at tk_X8_goesBy 94 rfl) (lv_at hl 3 rfl) ?_
                refine lv_iconst (pc := 183) (v := (-1)) hx hb (tb_at tk_X8_goesBy 95 rfl) (by decide) ?_
                refine lv_ixor (pc := 184) hx hb (tb_at tk_X8_goesBy 96 rfl) ?_
                refine lv_iand (pc := 185) hx hb (tb_at tk_X8_goesBy 97 rfl) ?_
                refine lv_istore_n (pc := 186) (lv' := [(3, .int (y3_l59 &&& (s0_j153 ^^^ (-1)))), (0, .ref z_o), (2, .int x2), (6, .int s0_j153)]) hx hb (tb_at tk_X8_goesBy 98 rfl) rfl hl (by decide) rfl (fun ls hl => ?_)
                refine lv_goto (pc := 187) (tgt := 59) hx hb (tb_at tk_X8_goesBy 99 rfl) (by decide) ?_
                exact ih59 (y3_l59 &&& (s0_j153 ^^^ (-1))) z_ringed_j180 z_lumps_j180 z_now_j180 z_at_e135 _ _ _ h hW hS (lv_sub hl [1, 2, 0] rfl)
              refine lv_if_lt (pc := 157) (tgt := 169) hx hb (tb_at tk_X8_goesBy 82 rfl) (by decide) (fun cc => ?_) (fun cc => ?_)
              · have h := it_t cc h
                refine lv_aload_n (pc := 169) hx hb (tb_at tk_X8_goesBy 87 rfl) rfl (lv_at hl 1 rfl) ?_
                refine lv_dup (pc := 170) hx hb (tb_at tk_X8_goesBy 88 rfl) rfl ?_
                refine k_get (pc := 171) (v := .int z_ringed_l59) (T := TX8) B inG8 hW 0 rfl rfl 29 (by decide) q_f_X8_155 rfl rfl (tb_at tk_X8_goesBy 89 rfl) ?_
                refine lv_iload (pc := 174) hx hb (tb_at tk_X8_goesBy 90 rfl) (lv_at hl 0 rfl) ?_
                refine lv_ior (pc := 176) hx hb (tb_at tk_X8_goesBy 91 rfl) ?_
                refine k_put (pc := 177) (T := TX8) B inG8 tyX8 tyX8_ok nmX8 hW hS 0 rfl rfl 29 (by decide) q_f_X8_155 rfl rfl rfl rfl (Nat.le_of_ble_eq_true rfl) (tb_at tk_X8_goesBy 92 rfl) (w_X8_goesBy cI cZ cQ cW z_o z_weight_a z_wants_a z_wantsMany_a z_st_a z_was_a z_images_a z_isKept_a z_told_a z_text_a z_saidWeight_a z_saidNights_a z_saidWants_a z_saidMany_a z_now_a z_gave_a z_at_a z_way_a z_bestWay_a z_made_a z_people z_known z_toldMany z_trace z_texted z_cursor z_start z_token z_number z_isWrong z_items z_saidPeople z_saidLaw (z_ringed_l59 ||| s0_j153) z_lumps_l59 z_now_j153 z_gave_e59 z_wantsMany z_wants z_weight z_at_e135) rfl (fun H locs hW hS => ?_)
                exact w180 (z_ringed_l59 ||| s0_j153) z_lumps_l59 z_now_j153 _ _ _ h hW hS (lv_sub hl [1, 2, 3, 0] rfl)
              · have h := it_f cc h
                refine lv_aload_n (pc := 160) hx hb (tb_at tk_X8_goesBy 83 rfl) rfl (lv_at hl 1 rfl) ?_
                refine lv_iload (pc := 161) hx hb (tb_at tk_X8_goesBy 84 rfl) (lv_at hl 4 rfl) ?_
                refine k_callv (pc := 163) B (k_runVv (rest := []) (C := RX8) B (c_X8_isLump l dC dI cI cZ cQ cW z_o z_weight_a z_wants_a z_wantsMany_a z_st_a z_was_a z_images_a z_isKept_a z_told_a z_text_a z_saidWeight_a z_saidNights_a z_saidWants_a z_saidMany_a z_now_a z_gave_a z_at_a z_way_a z_bestWay_a z_made_a z_people z_known z_toldMany z_trace z_texted z_cursor z_start z_token z_number z_isWrong z_items z_saidPeople z_saidLaw z_ringed_l59 z_lumps_l59 z_now_j153 z_gave_e59 z_weight y4_e135 N _ res h) E0_st (fun _ _ _ => trivial) q_c_X8_isLump q_m_X8_164 q_i_X8_isLump q_s_X8_isLump q_n_X8 hd_X8_isLump ⟨rfl, rfl⟩ ⟨Nat.le_of_ble_eq_true rfl, Nat.le_of_ble_eq_true rfl⟩ hW [0, 1, 2, 5] rfl (by decide +kernel) (q0 := 0) (ci := 8) rfl rfl rfl hl.1 rfl (Nat.le_of_ble_eq_true rfl) (tb_at tk_X8_goesBy 85 rfl) ⟨Nat.zero_le _, Nat.zero_le _⟩) hW hS [0, 1, 2, 5] rfl [z_o, z_now_a, z_gave_a, z_weight_a] rfl (fun _ => rfl) [some 0, some 1, some 2, none, none, some 3, none] (by decide +kernel) (fun u => (w_X8_goesBy cI cZ cQ cW z_o z_weight_a z_wants_a z_wantsMany_a z_st_a z_was_a z_images_a z_isKept_a z_told_a z_text_a z_saidWeight_a z_saidNights_a z_saidWants_a z_saidMany_a z_now_a z_gave_a z_at_a z_way_a z_bestWay_a z_made_a z_people z_known z_toldMany z_trace z_texted z_cursor z_start z_token z_number z_isWrong z_items z_saidPeople z_saidLaw z_ringed_l59 u.1 u.2 z_gave_e59 z_wantsMany z_wants z_weight z_at_e135)) (fun _ => rfl) (fun u H locs h hW hS => ?_)
                obtain ⟨z_lumps_163, z_now_163⟩ := u
                dsimp only at h
                have hW : PD (dC, dI) A (w_X8_goesBy cI cZ cQ cW z_o z_weight_a z_wants_a z_wantsMany_a z_st_a z_was_a z_images_a z_isKept_a z_told_a z_text_a z_saidWeight_a z_saidNights_a z_saidWants_a z_saidMany_a z_now_a z_gave_a z_at_a z_way_a z_bestWay_a z_made_a z_people z_known z_toldMany z_trace z_texted z_cursor z_start z_token z_number z_isWrong z_items z_saidPeople z_saidLaw z_ringed_l59 z_lumps_163 z_now_163 z_gave_e59 z_wantsMany z_wants z_weight z_at_e135) H := hW
                refine lv_goto (pc := 166) (tgt := 180) hx hb (tb_at tk_X8_goesBy 86 rfl) (by decide) ?_
                exact w180 z_ringed_l59 z_lumps_163 z_now_163 _ _ _ h hW hS (lv_sub hl [1, 2, 3, 0] rfl)
            refine lv_if_ge (pc := 137) (tgt := 149) hx hb (tb_at tk_X8_goesBy 72 rfl) (by decide) (fun cc => ?_) (fun cc => ?_)
            · have h := it_t cc h
              refine lv_iconst (pc := 149) (v := 1) hx hb (tb_at tk_X8_goesBy 77 rfl) (by decide) ?_
              refine lv_iload (pc := 150) hx hb (tb_at tk_X8_goesBy 78 rfl) (lv_at hl 3 rfl) ?_
              refine lv_ishl (pc := 152) hx hb (tb_at tk_X8_goesBy 79 rfl) ?_
              exact w153 z_now_l59 ((1 : Int32) <<< (y4_e135 &&& 31)) _ _ _ h hW hS (lv_sub hl [0, 1, 2, 3] rfl)
            · have h := it_f cc h
              refine lv_aload_n (pc := 140) hx hb (tb_at tk_X8_goesBy 73 rfl) rfl (lv_at hl 0 rfl) ?_
              refine lv_iload (pc := 141) hx hb (tb_at tk_X8_goesBy 74 rfl) (lv_at hl 4 rfl) ?_
              refine k_calli (pc := 143) B (k_runVi (rest := []) (C := RX8) B (c_X8_ringOf l dC dI cI cZ cQ cW z_o z_weight_a z_wants_a z_wantsMany_a z_st_a z_was_a z_images_a z_isKept_a z_told_a z_text_a z_saidWeight_a z_saidNights_a z_saidWants_a z_saidMany_a z_now_a z_gave_a z_at_a z_way_a z_bestWay_a z_made_a z_people z_known z_toldMany z_trace z_texted z_cursor z_start z_token z_number z_isWrong z_items z_saidPeople z_saidLaw z_ringed_l59 z_lumps_l59 z_at_e135 z_gave_e59 z_now_l59 y5_e135 N _ res h) E0_st (fun _ _ _ => trivial) q_c_X8_ringOf q_m_X8_161 q_i_X8_ringOf q_s_X8_ringOf q_n_X8 hd_X8_ringOf ⟨rfl, rfl⟩ ⟨Nat.le_of_ble_eq_true rfl, Nat.le_of_ble_eq_true rfl⟩ hW [0, 6, 2, 1] rfl (by decide +kernel) (q0 := 0) (ci := 8) rfl rfl rfl hl.1 rfl (Nat.le_of_ble_eq_true rfl) (tb_at tk_X8_goesBy 75 rfl) ⟨Nat.zero_le _, Nat.zero_le _⟩) hW hS [0, 6, 2, 1] rfl [z_o, z_at_a, z_gave_a, z_now_a] rfl (fun _ => rfl) [some 0, some 3, some 2, none, none, none, some 1] (by decide +kernel) (fun u => (w_X8_goesBy cI cZ cQ cW z_o z_weight_a z_wants_a z_wantsMany_a z_st_a z_was_a z_images_a z_isKept_a z_told_a z_text_a z_saidWeight_a z_saidNights_a z_saidWants_a z_saidMany_a z_now_a z_gave_a z_at_a z_way_a z_bestWay_a z_made_a z_people z_known z_toldMany z_trace z_texted z_cursor z_start z_token z_number z_isWrong z_items z_saidPeople z_saidLaw z_ringed_l59 z_lumps_l59 u z_gave_e59 z_wantsMany z_wants z_weight z_at_e135)) (fun _ => rfl) (fun r143 u H locs h hW hS => ?_)
              obtain ⟨z_now_143, rfl⟩ : ∃ z9, z9 = u := ⟨_, rfl⟩
              have hW : PD (dC, dI) A (w_X8_goesBy cI cZ cQ cW z_o z_weight_a z_wants_a z_wantsMany_a z_st_a z_was_a z_images_a z_isKept_a z_told_a z_text_a z_saidWeight_a z_saidNights_a z_saidWants_a z_saidMany_a z_now_a z_gave_a z_at_a z_way_a z_bestWay_a z_made_a z_people z_known z_toldMany z_trace z_texted z_cursor z_start z_token z_number z_isWrong z_items z_saidPeople z_saidLaw z_ringed_l59 z_lumps_l59 z_now_143 z_gave_e59 z_wantsMany z_wants z_weight z_at_e135) H := hW
              refine lv_goto (pc := 146) (tgt := 153) hx hb (tb_at tk_X8_goesBy 76 rfl) (by decide) ?_
              exact w153 z_now_143 r143 _ _ _ h hW hS (lv_sub hl [0, 1, 2, 3] rfl)
          have w77 : ∀ (n : Nat), ∀ (y4_l77 : Int32) (y5_l77 : Int32) (y6_l77 : Int32) (z_at_l77 : Nat → Int32) (H : Heap) (locs : List Loc) (ls : Array Slot), f_X8_goesBy_l77 x2 z_people z_wantsMany z_wants z_weight z_gave_e59 y3_l59 (fun y4_e135 y5_e135 z_at_e135 => f_X8_goesBy_e135 z_weight z_gave_e59 y3_l59 z_ringed_l59 z_lumps_l59 z_now_l59 (f_X8_goesBy_l59 x2 z_people z_wantsMany z_wants z_weight z_gave_e59 k N n59) N y4_e135 y5_e135 z_at_e135) N n y4_l77 y5_l77 y6_l77 z_at_l77 = some res → PD (dC, dI) A (w_X8_goesBy cI cZ cQ cW z_o z_weight_a z_wants_a z_wantsMany_a z_st_a z_was_a z_images_a z_isKept_a z_told_a z_text_a z_saidWeight_a z_saidNights_a z_saidWants_a z_saidMany_a z_now_a z_gave_a z_at_a z_way_a z_bestWay_a z_made_a z_people z_known z_toldMany z_trace z_texted z_cursor z_start z_token z_number z_isWrong z_items z_saidPeople z_saidLaw z_ringed_l59 z_lumps_l59 z_now_l59 z_gave_e59 z_wantsMany z_wants z_weight z_at_l77) H → va_S A s.heap H locs → lv_has ls 7 [(0, .ref z_o), (2, .int x2), (3, .int y3_l59), (4, .int y4_l77), (5, .int y5_l77), (6, .int y6_l77)] → W p l e rm_X8_goesBy s m args below meth c H locs 0 0 Q (F0 m 77 ls []) := by
            intro n
            induction n with
            | zero => intro y4_l77 y5_l77 y6_l77 z_at_l77 H locs ls h; exact no_n h
            | succ n77 ih77 =>
              intro y4_l77 y5_l77 y6_l77 z_at_l77 H locs ls h hW hS hl
              rw [f_X8_goesBy_l77] at h
              refine lv_iload (pc := 77) hx hb (tb_at tk_X8_goesBy 43 rfl) (lv_at hl 5 rfl) ?_
              refine lv_if_lt (pc := 79) (tgt := 135) hx hb (tb_at tk_X8_goesBy 44 rfl) (by decide) (fun cc => ?_) (fun cc => ?_)
              · have h := it_t cc h
                exact w135 y4_l77 y5_l77 z_at_l77 _ _ _ h hW hS (lv_sub hl [0, 1, 2, 3, 4] rfl)
              · have h := it_f cc h
                refine lv_iload_n (pc := 82) hx hb (tb_at tk_X8_goesBy 45 rfl) rfl (lv_at hl 2 rfl) ?_
                refine lv_iload (pc := 83) hx hb (tb_at tk_X8_goesBy 46 rfl) (lv_at hl 5 rfl) ?_
                refine k_call0 (pc := 85) B (k_runSi (rest := []) (host := "") B (c_X8_has l dC dI cI cZ cQ cW   y3_l59 y6_l77 N _ res h) E0_st (fun _ _ _ => trivial) q_c_X8_has q_m_X8_113 q_t_X8_has q_n_X8 hd_X8_has ⟨rfl, rfl⟩ ⟨Nat.le_of_ble_eq_true rfl, Nat.le_of_ble_eq_true rfl⟩ hW [] rfl (by decide +kernel) rfl hl.1 rfl (Nat.le_of_ble_eq_true rfl) (tb_at tk_X8_goesBy 47 rfl) ⟨Nat.zero_le _, Nat.zero_le _⟩) hW hS (fun r85 u H locs h hW hS => ?_)
                refine lv_if_eq (pc := 88) (tgt := 129) hx hb (tb_at tk_X8_goesBy 48 rfl) (by decide) (fun cc => ?_) (fun cc => ?_)
                · have h := it_t cc h
                  refine lv_iinc (pc := 129) (v := y6_l77 + (-1)) (lv' := [(6, .int (y6_l77 + (-1))), (0, .ref z_o), (2, .int x2), (3, .int y3_l59), (4, .int y4_l77), (5, .int y5_l77)]) hx hb (tb_at tk_X8_goesBy 69 rfl) hl (k := 5) rfl rfl (by decide) rfl (fun ls hl => ?_)
                  refine lv_goto (pc := 132) (tgt := 77) hx hb (tb_at tk_X8_goesBy 70 rfl) (by decide) ?_
                  exact ih77 y4_l77 y5_l77 (y6_l77 + (-1)) z_at_l77 _ _ _ h hW hS (lv_sub hl [1, 2, 3, 4, 5, 0] rfl)
                · have h := it_f cc h
                  refine lv_aload_n (pc := 91) hx hb (tb_at tk_X8_goesBy 49 rfl) rfl (lv_at hl 0 rfl) ?_
                  refine k_get (pc := 92) (v := .ref z_at_a) (T := TX8) B inG8 hW 0 rfl rfl 28 (by decide) q_f_X8_56 rfl rfl (tb_at tk_X8_goesBy 50 rfl) ?_
                  refine lv_iload (pc := 95) hx hb (tb_at tk_X8_goesBy 51 rfl) (lv_at hl 5 rfl) ?_
                  refine lv_aload_n (pc := 97) hx hb (tb_at tk_X8_goesBy 52 rfl) rfl (lv_at hl 0 rfl) ?_
                  refine lv_iload (pc := 98) hx hb (tb_at tk_X8_goesBy 53 rfl) (lv_at hl 5 rfl) ?_
                  refine lv_iload_n (pc := 100) hx hb (tb_at tk_X8_goesBy 54 rfl) rfl (lv_at hl 2 rfl) ?_
                  refine lv_iload_n (pc := 101) hx hb (tb_at tk_X8_goesBy 55 rfl) rfl (lv_at hl 1 rfl) ?_
                  refine k_calli (pc := 102) B (k_runVi (rest := [.int y6_l77, .ref z_at_a]) (C := RX8) B (c_X8_pointsAt l dC dI cI cZ cQ cW z_o z_weight_a z_wants_a z_wantsMany_a z_st_a z_was_a z_images_a z_isKept_a z_told_a z_text_a z_saidWeight_a z_saidNights_a z_saidWants_a z_saidMany_a z_now_a z_gave_a z_at_a z_way_a z_bestWay_a z_made_a z_people z_known z_toldMany z_trace z_texted z_cursor z_start z_token z_number z_isWrong z_items z_saidPeople z_saidLaw z_ringed_l59 z_lumps_l59 z_wantsMany z_wants z_gave_e59 z_weight y6_l77 y3_l59 x2 N _ res h) E0_st (fun _ _ _ => trivial) q_c_X8_pointsAt q_m_X8_158 q_i_X8_pointsAt q_s_X8_pointsAt q_n_X8 hd_X8_pointsAt ⟨rfl, rfl⟩ ⟨Nat.le_of_ble_eq_true rfl, Nat.le_of_ble_eq_true rfl⟩ hW [0, 3, 4, 2, 5] rfl (by decide +kernel) (q0 := 0) (ci := 8) rfl rfl rfl hl.1 rfl (Nat.le_of_ble_eq_true rfl) (tb_at tk_X8_goesBy 56 rfl) ⟨Nat.zero_le _, Nat.zero_le _⟩) hW hS [0, 3, 4, 2, 5] rfl [z_o, z_wantsMany_a, z_wants_a, z_gave_a, z_weight_a] rfl (fun _ => rfl) [some 0, none, some 3, some 1, some 2, some 4, none] (by decide +kernel) (fun _ => (w_X8_goesBy cI cZ cQ cW z_o z_weight_a z_wants_a z_wantsMany_a z_st_a z_was_a z_images_a z_isKept_a z_told_a z_text_a z_saidWeight_a z_saidNights_a z_saidWants_a z_saidMany_a z_now_a z_gave_a z_at_a z_way_a z_bestWay_a z_made_a z_people z_known z_toldMany z_trace z_texted z_cursor z_start z_token z_number z_isWrong z_items z_saidPeople z_saidLaw z_ringed_l59 z_lumps_l59 z_now_l59 z_gave_e59 z_wantsMany z_wants z_weight z_at_l77)) (fun _ => rfl) (fun r102 u H locs h hW hS => ?_)
                  have hW : PD (dC, dI) A (w_X8_goesBy cI cZ cQ cW z_o z_weight_a z_wants_a z_wantsMany_a z_st_a z_was_a z_images_a z_isKept_a z_told_a z_text_a z_saidWeight_a z_saidNights_a z_saidWants_a z_saidMany_a z_now_a z_gave_a z_at_a z_way_a z_bestWay_a z_made_a z_people z_known z_toldMany z_trace z_texted z_cursor z_start z_token z_number z_isWrong z_items z_saidPeople z_saidLaw z_ringed_l59 z_lumps_l59 z_now_l59 z_gave_e59 z_wantsMany z_wants z_weight z_at_l77) H := hW
                  have ii := ivi_in (ck_l h)
                  have h := ck_r h
                  refine k_iast (pc := 105) B hW hS 6 0 rfl rfl ii (tb_at tk_X8_goesBy 57 rfl) (w_X8_goesBy cI cZ cQ cW z_o z_weight_a z_wants_a z_wantsMany_a z_st_a z_was_a z_images_a z_isKept_a z_told_a z_text_a z_saidWeight_a z_saidNights_a z_saidWants_a z_saidMany_a z_now_a z_gave_a z_at_a z_way_a z_bestWay_a z_made_a z_people z_known z_toldMany z_trace z_texted z_cursor z_start z_token z_number z_isWrong z_items z_saidPeople z_saidLaw z_ringed_l59 z_lumps_l59 z_now_l59 z_gave_e59 z_wantsMany z_wants z_weight (upd z_at_l77 (y6_l77).toNatClampNeg r102)) rfl (fun H locs hW hS => ?_)
                  refine lv_aload_n (pc := 106) hx hb (tb_at tk_X8_goesBy 58 rfl) rfl (lv_at hl 0 rfl) ?_
                  refine k_get (pc := 107) (v := .ref z_at_a) (T := TX8) B inG8 hW 0 rfl rfl 28 (by decide) q_f_X8_56 rfl rfl (tb_at tk_X8_goesBy 59 rfl) ?_
                  refine lv_iload (pc := 110) hx hb (tb_at tk_X8_goesBy 60 rfl) (lv_at hl 5 rfl) ?_
                  have ii := ivi_in (ck_l h)
                  have h := ck_r h
                  refine k_iald (pc := 112) B hW 6 0 rfl rfl ii (tb_at tk_X8_goesBy 61 rfl) ?_
                  have w123 : ∀ (s0_j123 : Int32) (H : Heap) (locs : List Loc) (ls : Array Slot), f_X8_goesBy_j123 y6_l77 z_at_l77 r102 (f_X8_goesBy_l77 x2 z_people z_wantsMany z_wants z_weight z_gave_e59 y3_l59 (fun y4_e135 y5_e135 z_at_e135 => f_X8_goesBy_e135 z_weight z_gave_e59 y3_l59 z_ringed_l59 z_lumps_l59 z_now_l59 (f_X8_goesBy_l59 x2 z_people z_wantsMany z_wants z_weight z_gave_e59 k N n59) N y4_e135 y5_e135 z_at_e135) N n77) s0_j123 = some res → PD (dC, dI) A (w_X8_goesBy cI cZ cQ cW z_o z_weight_a z_wants_a z_wantsMany_a z_st_a z_was_a z_images_a z_isKept_a z_told_a z_text_a z_saidWeight_a z_saidNights_a z_saidWants_a z_saidMany_a z_now_a z_gave_a z_at_a z_way_a z_bestWay_a z_made_a z_people z_known z_toldMany z_trace z_texted z_cursor z_start z_token z_number z_isWrong z_items z_saidPeople z_saidLaw z_ringed_l59 z_lumps_l59 z_now_l59 z_gave_e59 z_wantsMany z_wants z_weight (upd z_at_l77 (y6_l77).toNatClampNeg r102)) H → va_S A s.heap H locs → lv_has ls 7 [(0, .ref z_o), (2, .int x2), (3, .int y3_l59), (6, .int y6_l77)] → W p l e rm_X8_goesBy s m args below meth c H locs 0 0 Q (F0 m 123 ls [.int s0_j123]) := by
                    intro s0_j123 H locs ls h hW hS hl
                    unfold f_X8_goesBy_j123 at h
                    refine lv_istore (pc := 123) (lv' := [(4, .int s0_j123), (0, .ref z_o), (2, .int x2), (3, .int y3_l59), (6, .int y6_l77)]) hx hb (tb_at tk_X8_goesBy 66 rfl) hl (by decide) rfl (fun ls hl => ?_)
                    refine lv_iload (pc := 125) hx hb (tb_at tk_X8_goesBy 67 rfl) (lv_at hl 4 rfl) ?_
                    refine lv_istore (pc := 127) (lv' := [(5, .int y6_l77), (4, .int s0_j123), (0, .ref z_o), (2, .int x2), (3, .int y3_l59), (6, .int y6_l77)]) hx hb (tb_at tk_X8_goesBy 68 rfl) hl (by decide) rfl (fun ls hl => ?_)
                    refine lv_iinc (pc := 129) (v := y6_l77 + (-1)) (lv' := [(6, .int (y6_l77 + (-1))), (5, .int y6_l77), (4, .int s0_j123), (0, .ref z_o), (2, .int x2), (3, .int y3_l59)]) hx hb (tb_at tk_X8_goesBy 69 rfl) hl (k := 5) rfl rfl (by decide) rfl (fun ls hl => ?_)
                    refine lv_goto (pc := 132) (tgt := 77) hx hb (tb_at tk_X8_goesBy 70 rfl) (by decide) ?_
                    exact ih77 s0_j123 y6_l77 (y6_l77 + (-1)) (upd z_at_l77 (y6_l77).toNatClampNeg r102) _ _ _ h hW hS (lv_sub hl [3, 4, 5, 2, 1, 0] rfl)
                  refine lv_if_ge (pc := 113) (tgt := 121) hx hb (tb_at tk_X8_goesBy 62 rfl) (by decide) (fun cc => ?_) (fun cc => ?_)
                  · have h := it_t cc h
                    refine lv_iload (pc := 121) hx hb (tb_at tk_X8_goesBy 65 rfl) (lv_at hl 3 rfl) ?_
                    exact w123 y4_l77 _ _ _ h hW hS (lv_sub hl [0, 1, 2, 5] rfl)
                  · have h := it_f cc h
                    refine lv_iload (pc := 116) hx hb (tb_at tk_X8_goesBy 63 rfl) (lv_at hl 5 rfl) ?_
                    refine lv_goto (pc := 118) (tgt := 123) hx hb (tb_at tk_X8_goesBy 64 rfl) (by decide) ?_
                    exact w123 y6_l77 _ _ _ h hW hS (lv_sub hl [0, 1, 2, 5] rfl)
          exact w77 N (-1) (-1) (z_people - 1) z_at_l59 _ _ _ h hW hS (lv_sub hl [3, 4, 5, 2, 1, 0] rfl)
    exact w59 N x1 0 0 z_now z_at _ _ _ h hW hS (lv_sub hl [0, 1, 2] rfl)
  have w15 : ∀ (n : Nat), ∀ (y4_l15 : Int32) (z_gave_l15 : Nat → Int32) (H : Heap) (locs : List Loc) (ls : Array Slot), f_X8_goesBy_l15 x1 z_now z_people (fun z_gave_e59 => f_X8_goesBy_e59 x1 x2 z_at z_now z_people z_wantsMany z_wants z_weight k N z_gave_e59) N n y4_l15 z_gave_l15 = some res → PD (dC, dI) A (w_X8_goesBy cI cZ cQ cW z_o z_weight_a z_wants_a z_wantsMany_a z_st_a z_was_a z_images_a z_isKept_a z_told_a z_text_a z_saidWeight_a z_saidNights_a z_saidWants_a z_saidMany_a z_now_a z_gave_a z_at_a z_way_a z_bestWay_a z_made_a z_people z_known z_toldMany z_trace z_texted z_cursor z_start z_token z_number z_isWrong z_items z_saidPeople z_saidLaw 0 0 z_now z_gave_l15 z_wantsMany z_wants z_weight z_at) H → va_S A s.heap H locs → lv_has ls 7 [(0, .ref z_o), (1, .int x1), (2, .int x2), (3, .int x1), (4, .int y4_l15)] → W p l e rm_X8_goesBy s m args below meth c H locs 0 0 Q (F0 m 15 ls []) := by
    intro n
    induction n with
    | zero => intro y4_l15 z_gave_l15 H locs ls h; exact no_n h
    | succ n15 ih15 =>
      intro y4_l15 z_gave_l15 H locs ls h hW hS hl
      rw [f_X8_goesBy_l15] at h
      refine lv_iload (pc := 15) hx hb (tb_at tk_X8_goesBy 10 rfl) (lv_at hl 4 rfl) ?_
      refine lv_aload_n (pc := 17) hx hb (tb_at tk_X8_goesBy 11 rfl) rfl (lv_at hl 0 rfl) ?_
      refine k_get (pc := 18) (v := .int z_people) (T := TX8) B inG8 hW 0 rfl rfl 0 (by decide) q_f_X8_68 rfl rfl (tb_at tk_X8_goesBy 12 rfl) ?_
      refine lv_icmp_ge (pc := 21) (tgt := 59) hx hb (tb_at tk_X8_goesBy 13 rfl) (by decide) (fun cc => ?_) (fun cc => ?_)
      · have h := it_t cc h
        exact w59 z_gave_l15 _ _ _ h hW hS (lv_sub hl [0, 2, 3] rfl)
      · have h := it_f cc h
        refine lv_aload_n (pc := 24) hx hb (tb_at tk_X8_goesBy 14 rfl) rfl (lv_at hl 0 rfl) ?_
        refine k_get (pc := 25) (v := .ref z_gave_a) (T := TX8) B inG8 hW 0 rfl rfl 27 (by decide) q_f_X8_53 rfl rfl (tb_at tk_X8_goesBy 15 rfl) ?_
        refine lv_iload (pc := 28) hx hb (tb_at tk_X8_goesBy 16 rfl) (lv_at hl 4 rfl) ?_
        refine lv_iload_n (pc := 30) hx hb (tb_at tk_X8_goesBy 17 rfl) rfl (lv_at hl 1 rfl) ?_
        refine lv_iload (pc := 31) hx hb (tb_at tk_X8_goesBy 18 rfl) (lv_at hl 4 rfl) ?_
        refine k_call0 (pc := 33) B (k_runSi (rest := [.int y4_l15, .ref z_gave_a]) (host := "") B (c_X8_has l dC dI cI cZ cQ cW   x1 y4_l15 N _ res h) E0_st (fun _ _ _ => trivial) q_c_X8_has q_m_X8_113 q_t_X8_has q_n_X8 hd_X8_has ⟨rfl, rfl⟩ ⟨Nat.le_of_ble_eq_true rfl, Nat.le_of_ble_eq_true rfl⟩ hW [] rfl (by decide +kernel) rfl hl.1 rfl (Nat.le_of_ble_eq_true rfl) (tb_at tk_X8_goesBy 19 rfl) ⟨Nat.zero_le _, Nat.zero_le _⟩) hW hS (fun r33 u H locs h hW hS => ?_)
        refine lv_if_eq (pc := 36) (tgt := 51) hx hb (tb_at tk_X8_goesBy 20 rfl) (by decide) (fun cc => ?_) (fun cc => ?_)
        · have h := it_t cc h
          refine lv_iconst (pc := 51) (v := (-1)) hx hb (tb_at tk_X8_goesBy 28 rfl) (by decide) ?_
          have ii := ivi_in (ck_l h)
          have h := ck_r h
          refine k_iast (pc := 52) B hW hS 2 0 rfl rfl ii (tb_at tk_X8_goesBy 29 rfl) (w_X8_goesBy cI cZ cQ cW z_o z_weight_a z_wants_a z_wantsMany_a z_st_a z_was_a z_images_a z_isKept_a z_told_a z_text_a z_saidWeight_a z_saidNights_a z_saidWants_a z_saidMany_a z_now_a z_gave_a z_at_a z_way_a z_bestWay_a z_made_a z_people z_known z_toldMany z_trace z_texted z_cursor z_start z_token z_number z_isWrong z_items z_saidPeople z_saidLaw 0 0 z_now (upd z_gave_l15 (y4_l15).toNatClampNeg (-1)) z_wantsMany z_wants z_weight z_at) rfl (fun H locs hW hS => ?_)
          refine lv_iinc (pc := 53) (v := y4_l15 + 1) (lv' := [(4, .int (y4_l15 + 1)), (0, .ref z_o), (1, .int x1), (2, .int x2), (3, .int x1)]) hx hb (tb_at tk_X8_goesBy 30 rfl) hl (k := 4) rfl rfl (by decide) rfl (fun ls hl => ?_)
          refine lv_goto (pc := 56) (tgt := 15) hx hb (tb_at tk_X8_goesBy 31 rfl) (by decide) ?_
          exact ih15 (y4_l15 + 1) (upd z_gave_l15 (y4_l15).toNatClampNeg (-1)) _ _ _ h hW hS (lv_sub hl [1, 2, 3, 4, 0] rfl)
        · have h := it_f cc h
          refine lv_aload_n (pc := 39) hx hb (tb_at tk_X8_goesBy 21 rfl) rfl (lv_at hl 0 rfl) ?_
          refine k_get (pc := 40) (v := .ref z_now_a) (T := TX8) B inG8 hW 0 rfl rfl 26 (by decide) q_f_X8_50 rfl rfl (tb_at tk_X8_goesBy 22 rfl) ?_
          refine lv_iconst (pc := 43) (v := 0) hx hb (tb_at tk_X8_goesBy 23 rfl) (by decide) ?_
          refine lv_iload (pc := 44) hx hb (tb_at tk_X8_goesBy 24 rfl) (lv_at hl 4 rfl) ?_
          refine lv_iadd (pc := 46) hx hb (tb_at tk_X8_goesBy 25 rfl) ?_
          have ii := ivi_in (ck_l h)
          have h := ck_r h
          refine k_iald (pc := 47) B hW 1 0 rfl rfl ii (tb_at tk_X8_goesBy 26 rfl) ?_
          refine lv_goto (pc := 48) (tgt := 52) hx hb (tb_at tk_X8_goesBy 27 rfl) (by decide) ?_
          have ii := ivi_in (ck_l h)
          have h := ck_r h
          refine k_iast (pc := 52) B hW hS 2 0 rfl rfl ii (tb_at tk_X8_goesBy 29 rfl) (w_X8_goesBy cI cZ cQ cW z_o z_weight_a z_wants_a z_wantsMany_a z_st_a z_was_a z_images_a z_isKept_a z_told_a z_text_a z_saidWeight_a z_saidNights_a z_saidWants_a z_saidMany_a z_now_a z_gave_a z_at_a z_way_a z_bestWay_a z_made_a z_people z_known z_toldMany z_trace z_texted z_cursor z_start z_token z_number z_isWrong z_items z_saidPeople z_saidLaw 0 0 z_now (upd z_gave_l15 (y4_l15).toNatClampNeg (z_now ((0 : Int32) + y4_l15).toNatClampNeg)) z_wantsMany z_wants z_weight z_at) rfl (fun H locs hW hS => ?_)
          refine lv_iinc (pc := 53) (v := y4_l15 + 1) (lv' := [(4, .int (y4_l15 + 1)), (0, .ref z_o), (1, .int x1), (2, .int x2), (3, .int x1)]) hx hb (tb_at tk_X8_goesBy 30 rfl) hl (k := 4) rfl rfl (by decide) rfl (fun ls hl => ?_)
          refine lv_goto (pc := 56) (tgt := 15) hx hb (tb_at tk_X8_goesBy 31 rfl) (by decide) ?_
          exact ih15 (y4_l15 + 1) (upd z_gave_l15 (y4_l15).toNatClampNeg (z_now ((0 : Int32) + y4_l15).toNatClampNeg)) _ _ _ h hW hS (lv_sub hl [1, 2, 3, 4, 0] rfl)
  exact w15 N 0 z_gave _ _ _ h hW hS (lv_sub hl [2, 3, 4, 1, 0] rfl)
def f_X8_able_j45 {ρ : Type} (y1_l4 : Int32) (y2_l4 : Int32) (kb4 : Int32 → Int32 → Option ρ) (s1_j45 : Int32) : Option ρ := kb4 (y1_l4 ||| s1_j45) (y2_l4 + 1)
def f_X8_able_j44 {ρ : Type} (y1_l4 : Int32) (y2_l4 : Int32) (kb4 : Int32 → Int32 → Option ρ) : Option ρ := f_X8_able_j45 y1_l4 y2_l4 kb4 0
def f_X8_able_l4 {ρ : Type} (z_people : Int32) (z_st : Nat → Int32) (k : Int32 → Option ρ) : Nat → Int32 → Int32 → Option ρ
  | 0, _, _ => none
  | n4 + 1, y1_l4, y2_l4 => if z_people ≤ y2_l4 then (k y1_l4) else (ck (ivi ((0 : Int32) + y2_l4) 25) (if 6 ≤ (z_st ((0 : Int32) + y2_l4).toNatClampNeg) then (f_X8_able_j44 y1_l4 y2_l4 (f_X8_able_l4 z_people z_st k n4) ) else (ck (ivi ((6 : Int32) + y2_l4) 25) (if (z_st ((6 : Int32) + y2_l4).toNatClampNeg) ≤ 0 then (f_X8_able_j44 y1_l4 y2_l4 (f_X8_able_l4 z_people z_st k n4) ) else (f_X8_able_j45 y1_l4 y2_l4 (f_X8_able_l4 z_people z_st k n4) ((1 : Int32) <<< (y2_l4 &&& 31)))))))
def f_X8_able {ρ : Type} (N : Nat) (z_people : Int32) (z_st : Nat → Int32) (k : Int32 → Option ρ) : Option ρ := f_X8_able_l4 z_people z_st k N 0 0
abbrev w_X8_able (cI cZ cQ cW : ClassId) (z_o : Nat) (z_weight_a : Nat) (z_wants_a : Nat) (z_wantsMany_a : Nat) (z_st_a : Nat) (z_was_a : Nat) (z_images_a : Nat) (z_isKept_a : Nat) (z_told_a : Nat) (z_text_a : Nat) (z_saidWeight_a : Nat) (z_saidNights_a : Nat) (z_saidWants_a : Nat) (z_saidMany_a : Nat) (z_now_a : Nat) (z_gave_a : Nat) (z_at_a : Nat) (z_way_a : Nat) (z_bestWay_a : Nat) (z_made_a : Nat) (z_people : Int32) (z_known : Int32) (z_toldMany : Int32) (z_trace : Int64) (z_texted : Int32) (z_cursor : Int32) (z_start : Int32) (z_token : Int32) (z_number : Int32) (z_isWrong : Int32) (z_items : Int32) (z_saidPeople : Int32) (z_saidLaw : Int32) (z_ringed : Int32) (z_lumps : Int32) (z_st : Nat → Int32) : va_W := [(z_o, .inr (8, [.int z_people, .ref z_weight_a, .ref z_wants_a, .ref z_wantsMany_a, .ref z_st_a, .ref z_was_a, .int z_known, .ref z_images_a, .ref z_isKept_a, .int z_toldMany, .ref z_told_a, .long z_trace, .ref z_text_a, .int z_texted, .int z_cursor, .int z_start, .int z_token, .int z_number, .int z_isWrong, .int z_items, .int z_saidPeople, .ref z_saidWeight_a, .ref z_saidNights_a, .ref z_saidWants_a, .ref z_saidMany_a, .int z_saidLaw, .ref z_now_a, .ref z_gave_a, .ref z_at_a, .int z_ringed, .int z_lumps, .ref z_way_a, .ref z_bestWay_a, .ref z_made_a])), (z_st_a, .inl (cI, 25, .inl z_st))]
abbrev rm_X8_able : Room := { frames := 0, cells := 0, slots := 0, locals := 0 }
set_option maxHeartbeats 4000000 in
set_option maxRecDepth 100000 in
theorem c_X8_able (l : Launch) (dC : Nat → ClassId) (dI : Nat → Nat → Nat) (cI cZ cQ cW : ClassId) (z_o : Nat) (z_weight_a : Nat) (z_wants_a : Nat) (z_wantsMany_a : Nat) (z_st_a : Nat) (z_was_a : Nat) (z_images_a : Nat) (z_isKept_a : Nat) (z_told_a : Nat) (z_text_a : Nat) (z_saidWeight_a : Nat) (z_saidNights_a : Nat) (z_saidWants_a : Nat) (z_saidMany_a : Nat) (z_now_a : Nat) (z_gave_a : Nat) (z_at_a : Nat) (z_way_a : Nat) (z_bestWay_a : Nat) (z_made_a : Nat) (z_people : Int32) (z_known : Int32) (z_toldMany : Int32) (z_trace : Int64) (z_texted : Int32) (z_cursor : Int32) (z_start : Int32) (z_token : Int32) (z_number : Int32) (z_isWrong : Int32) (z_items : Int32) (z_saidPeople : Int32) (z_saidLaw : Int32) (z_ringed : Int32) (z_lumps : Int32) (z_st : Nat → Int32) {ρ : Type} (N : Nat) (k : Int32 → Option ρ) (res : ρ) (h : f_X8_able N z_people z_st k = some res) : Ci l yX8_able (WS yX8_able cX8_able 3 (some .int)) rm_X8_able (dC, dI) (tysG cI cZ cQ cW) E0 [.ref z_o] (w_X8_able cI cZ cQ cW z_o z_weight_a z_wants_a z_wantsMany_a z_st_a z_was_a z_images_a z_isKept_a z_told_a z_text_a z_saidWeight_a z_saidNights_a z_saidWants_a z_saidMany_a z_now_a z_gave_a z_at_a z_way_a z_bestWay_a z_made_a z_people z_known z_toldMany z_trace z_texted z_cursor z_start z_token z_number z_isWrong z_items z_saidPeople z_saidLaw z_ringed z_lumps z_st) (fun (_ : Unit) => (w_X8_able cI cZ cQ cW z_o z_weight_a z_wants_a z_wantsMany_a z_st_a z_was_a z_images_a z_isKept_a z_told_a z_text_a z_saidWeight_a z_saidNights_a z_saidWants_a z_saidMany_a z_now_a z_gave_a z_at_a z_way_a z_bestWay_a z_made_a z_people z_known z_toldMany z_trace z_texted z_cursor z_start z_token z_number z_isWrong z_items z_saidPeople z_saidLaw z_ringed z_lumps z_st)) (fun r _ => k r = some res) := by
  refine Ci.of (cc := cX8_able) (n := 3) (by decide +kernel) (Nat.le_of_ble_eq_true rfl) ?_
  intro p e s m args below meth c A ls Q B hW hE hS hl hQ
  have hx := B.1
  have hb := B.2.1
  have hl : lv_has ls 3 [(0, .ref z_o)] := hl
  unfold f_X8_able at h
  refine lv_iconst (pc := 0) (v := 0) hx hb (tb_at tk_X8_able 0 rfl) (by decide) ?_
  refine lv_istore_n (pc := 1) (lv' := [(1, .int 0), (0, .ref z_o)]) hx hb (tb_at tk_X8_able 1 rfl) rfl hl (by decide) rfl (fun ls hl => ?_)
  refine lv_iconst (pc := 2) (v := 0) hx hb (tb_at tk_X8_able 2 rfl) (by decide) ?_
  refine lv_istore_n (pc := 3) (lv' := [(2, .int 0), (1, .int 0), (0, .ref z_o)]) hx hb (tb_at tk_X8_able 3 rfl) rfl hl (by decide) rfl (fun ls hl => ?_)
  have w4 : ∀ (n : Nat), ∀ (y1_l4 : Int32) (y2_l4 : Int32) (H : Heap) (locs : List Loc) (ls : Array Slot), f_X8_able_l4 z_people z_st k n y1_l4 y2_l4 = some res → PD (dC, dI) A (w_X8_able cI cZ cQ cW z_o z_weight_a z_wants_a z_wantsMany_a z_st_a z_was_a z_images_a z_isKept_a z_told_a z_text_a z_saidWeight_a z_saidNights_a z_saidWants_a z_saidMany_a z_now_a z_gave_a z_at_a z_way_a z_bestWay_a z_made_a z_people z_known z_toldMany z_trace z_texted z_cursor z_start z_token z_number z_isWrong z_items z_saidPeople z_saidLaw z_ringed z_lumps z_st) H → va_S A s.heap H locs → lv_has ls 3 [(0, .ref z_o), (1, .int y1_l4), (2, .int y2_l4)] → W p l e rm_X8_able s m args below meth c H locs 0 0 Q (F0 m 4 ls []) := by
    intro n
    induction n with
    | zero => intro y1_l4 y2_l4 H locs ls h; exact no_n h
    | succ n4 ih4 =>
      intro y1_l4 y2_l4 H locs ls h hW hS hl
      rw [f_X8_able_l4] at h
      refine lv_iload_n (pc := 4) hx hb (tb_at tk_X8_able 4 rfl) rfl (lv_at hl 2 rfl) ?_
      refine lv_aload_n (pc := 5) hx hb (tb_at tk_X8_able 5 rfl) rfl (lv_at hl 0 rfl) ?_
      refine k_get (pc := 6) (v := .int z_people) (T := TX8) B inG8 hW 0 rfl rfl 0 (by decide) q_f_X8_68 rfl rfl (tb_at tk_X8_able 6 rfl) ?_
      refine lv_icmp_ge (pc := 9) (tgt := 53) hx hb (tb_at tk_X8_able 7 rfl) (by decide) (fun cc => ?_) (fun cc => ?_)
      · have h := it_t cc h
        refine lv_iload_n (pc := 53) hx hb (tb_at tk_X8_able 33 rfl) rfl (lv_at hl 1 rfl) ?_
        exact hQ y1_l4 () _ _ _ 54 rfl h hW hS (tb_at tk_X8_able 34 rfl)
      · have h := it_f cc h
        refine lv_iload_n (pc := 12) hx hb (tb_at tk_X8_able 8 rfl) rfl (lv_at hl 1 rfl) ?_
        refine lv_aload_n (pc := 13) hx hb (tb_at tk_X8_able 9 rfl) rfl (lv_at hl 0 rfl) ?_
        refine k_get (pc := 14) (v := .ref z_st_a) (T := TX8) B inG8 hW 0 rfl rfl 4 (by decide) q_f_X8_19 rfl rfl (tb_at tk_X8_able 10 rfl) ?_
        refine lv_iconst (pc := 17) (v := 0) hx hb (tb_at tk_X8_able 11 rfl) (by decide) ?_
        refine lv_iload_n (pc := 18) hx hb (tb_at tk_X8_able 12 rfl) rfl (lv_at hl 2 rfl) ?_
        refine lv_iadd (pc := 19) hx hb (tb_at tk_X8_able 13 rfl) ?_
        have ii := ivi_in (ck_l h)
        have h := ck_r h
        refine k_iald (pc := 20) B hW 1 0 rfl rfl ii (tb_at tk_X8_able 14 rfl) ?_
        refine lv_bipush (pc := 21) (v := 6) hx hb (tb_at tk_X8_able 15 rfl) (by decide) ?_
        have w45 : ∀ (s1_j45 : Int32) (H : Heap) (locs : List Loc) (ls : Array Slot), f_X8_able_j45 y1_l4 y2_l4 (f_X8_able_l4 z_people z_st k n4) s1_j45 = some res → PD (dC, dI) A (w_X8_able cI cZ cQ cW z_o z_weight_a z_wants_a z_wantsMany_a z_st_a z_was_a z_images_a z_isKept_a z_told_a z_text_a z_saidWeight_a z_saidNights_a z_saidWants_a z_saidMany_a z_now_a z_gave_a z_at_a z_way_a z_bestWay_a z_made_a z_people z_known z_toldMany z_trace z_texted z_cursor z_start z_token z_number z_isWrong z_items z_saidPeople z_saidLaw z_ringed z_lumps z_st) H → va_S A s.heap H locs → lv_has ls 3 [(0, .ref z_o), (2, .int y2_l4)] → W p l e rm_X8_able s m args below meth c H locs 0 0 Q (F0 m 45 ls [.int s1_j45, .int y1_l4]) := by
          intro s1_j45 H locs ls h hW hS hl
          unfold f_X8_able_j45 at h
          refine lv_ior (pc := 45) hx hb (tb_at tk_X8_able 29 rfl) ?_
          refine lv_istore_n (pc := 46) (lv' := [(1, .int (y1_l4 ||| s1_j45)), (0, .ref z_o), (2, .int y2_l4)]) hx hb (tb_at tk_X8_able 30 rfl) rfl hl (by decide) rfl (fun ls hl => ?_)
          refine lv_iinc (pc := 47) (v := y2_l4 + 1) (lv' := [(2, .int (y2_l4 + 1)), (1, .int (y1_l4 ||| s1_j45)), (0, .ref z_o)]) hx hb (tb_at tk_X8_able 31 rfl) hl (k := 2) rfl rfl (by decide) rfl (fun ls hl => ?_)
          refine lv_goto (pc := 50) (tgt := 4) hx hb (tb_at tk_X8_able 32 rfl) (by decide) ?_
          exact ih4 (y1_l4 ||| s1_j45) (y2_l4 + 1) _ _ _ h hW hS (lv_sub hl [2, 1, 0] rfl)
        have w44 : ∀ (H : Heap) (locs : List Loc) (ls : Array Slot), f_X8_able_j44 y1_l4 y2_l4 (f_X8_able_l4 z_people z_st k n4) = some res → PD (dC, dI) A (w_X8_able cI cZ cQ cW z_o z_weight_a z_wants_a z_wantsMany_a z_st_a z_was_a z_images_a z_isKept_a z_told_a z_text_a z_saidWeight_a z_saidNights_a z_saidWants_a z_saidMany_a z_now_a z_gave_a z_at_a z_way_a z_bestWay_a z_made_a z_people z_known z_toldMany z_trace z_texted z_cursor z_start z_token z_number z_isWrong z_items z_saidPeople z_saidLaw z_ringed z_lumps z_st) H → va_S A s.heap H locs → lv_has ls 3 [(0, .ref z_o), (2, .int y2_l4)] → W p l e rm_X8_able s m args below meth c H locs 0 0 Q (F0 m 44 ls [.int y1_l4]) := by
          intro H locs ls h hW hS hl
          unfold f_X8_able_j44 at h
          refine lv_iconst (pc := 44) (v := 0) hx hb (tb_at tk_X8_able 28 rfl) (by decide) ?_
          exact w45 0 _ _ _ h hW hS (lv_sub hl [0, 1] rfl)
        refine lv_icmp_ge (pc := 23) (tgt := 44) hx hb (tb_at tk_X8_able 16 rfl) (by decide) (fun cc => ?_) (fun cc => ?_)
        · have h := it_t cc h
          exact w44  _ _ _ h hW hS (lv_sub hl [0, 2] rfl)
        · have h := it_f cc h
          refine lv_aload_n (pc := 26) hx hb (tb_at tk_X8_able 17 rfl) rfl (lv_at hl 0 rfl) ?_
          refine k_get (pc := 27) (v := .ref z_st_a) (T := TX8) B inG8 hW 0 rfl rfl 4 (by decide) q_f_X8_19 rfl rfl (tb_at tk_X8_able 18 rfl) ?_
          refine lv_bipush (pc := 30) (v := 6) hx hb (tb_at tk_X8_able 19 rfl) (by decide) ?_
          refine lv_iload_n (pc := 32) hx hb (tb_at tk_X8_able 20 rfl) rfl (lv_at hl 2 rfl) ?_
          refine lv_iadd (pc := 33) hx hb (tb_at tk_X8_able 21 rfl) ?_
          have ii := ivi_in (ck_l h)
          have h := ck_r h
          refine k_iald (pc := 34) B hW 1 0 rfl rfl ii (tb_at tk_X8_able 22 rfl) ?_
          refine lv_if_le (pc := 35) (tgt := 44) hx hb (tb_at tk_X8_able 23 rfl) (by decide) (fun cc => ?_) (fun cc => ?_)
          · have h := it_t cc h
            exact w44  _ _ _ h hW hS (lv_sub hl [0, 2] rfl)
          · have h := it_f cc h
            refine lv_iconst (pc := 38) (v := 1) hx hb (tb_at tk_X8_able 24 rfl) (by decide) ?_
            refine lv_iload_n (pc := 39) hx hb (tb_at tk_X8_able 25 rfl) rfl (lv_at hl 2 rfl) ?_
            refine lv_ishl (pc := 40) hx hb (tb_at tk_X8_able 26 rfl) ?_
            refine lv_goto (pc := 41) (tgt := 45) hx hb (tb_at tk_X8_able 27 rfl) (by decide) ?_
            exact w45 ((1 : Int32) <<< (y2_l4 &&& 31)) _ _ _ h hW hS (lv_sub hl [0, 2] rfl)
  exact w4 N 0 0 _ _ _ h hW hS (lv_sub hl [2, 1, 0] rfl)
def f_X8_all {ρ : Type} (N : Nat) (z_people : Int32) (k : Int32 → Option ρ) : Option ρ := k (((1 : Int32) <<< (z_people &&& 31)) - 1)
abbrev w_X8_all (cI cZ cQ cW : ClassId) (z_o : Nat) (z_weight_a : Nat) (z_wants_a : Nat) (z_wantsMany_a : Nat) (z_st_a : Nat) (z_was_a : Nat) (z_images_a : Nat) (z_isKept_a : Nat) (z_told_a : Nat) (z_text_a : Nat) (z_saidWeight_a : Nat) (z_saidNights_a : Nat) (z_saidWants_a : Nat) (z_saidMany_a : Nat) (z_now_a : Nat) (z_gave_a : Nat) (z_at_a : Nat) (z_way_a : Nat) (z_bestWay_a : Nat) (z_made_a : Nat) (z_people : Int32) (z_known : Int32) (z_toldMany : Int32) (z_trace : Int64) (z_texted : Int32) (z_cursor : Int32) (z_start : Int32) (z_token : Int32) (z_number : Int32) (z_isWrong : Int32) (z_items : Int32) (z_saidPeople : Int32) (z_saidLaw : Int32) (z_ringed : Int32) (z_lumps : Int32) : va_W := [(z_o, .inr (8, [.int z_people, .ref z_weight_a, .ref z_wants_a, .ref z_wantsMany_a, .ref z_st_a, .ref z_was_a, .int z_known, .ref z_images_a, .ref z_isKept_a, .int z_toldMany, .ref z_told_a, .long z_trace, .ref z_text_a, .int z_texted, .int z_cursor, .int z_start, .int z_token, .int z_number, .int z_isWrong, .int z_items, .int z_saidPeople, .ref z_saidWeight_a, .ref z_saidNights_a, .ref z_saidWants_a, .ref z_saidMany_a, .int z_saidLaw, .ref z_now_a, .ref z_gave_a, .ref z_at_a, .int z_ringed, .int z_lumps, .ref z_way_a, .ref z_bestWay_a, .ref z_made_a]))]
abbrev rm_X8_all : Room := { frames := 0, cells := 0, slots := 0, locals := 0 }
set_option maxHeartbeats 4000000 in
set_option maxRecDepth 100000 in
theorem c_X8_all (l : Launch) (dC : Nat → ClassId) (dI : Nat → Nat → Nat) (cI cZ cQ cW : ClassId) (z_o : Nat) (z_weight_a : Nat) (z_wants_a : Nat) (z_wantsMany_a : Nat) (z_st_a : Nat) (z_was_a : Nat) (z_images_a : Nat) (z_isKept_a : Nat) (z_told_a : Nat) (z_text_a : Nat) (z_saidWeight_a : Nat) (z_saidNights_a : Nat) (z_saidWants_a : Nat) (z_saidMany_a : Nat) (z_now_a : Nat) (z_gave_a : Nat) (z_at_a : Nat) (z_way_a : Nat) (z_bestWay_a : Nat) (z_made_a : Nat) (z_people : Int32) (z_known : Int32) (z_toldMany : Int32) (z_trace : Int64) (z_texted : Int32) (z_cursor : Int32) (z_start : Int32) (z_token : Int32) (z_number : Int32) (z_isWrong : Int32) (z_items : Int32) (z_saidPeople : Int32) (z_saidLaw : Int32) (z_ringed : Int32) (z_lumps : Int32) {ρ : Type} (N : Nat) (k : Int32 → Option ρ) (res : ρ) (h : f_X8_all N z_people k = some res) : Ci l yX8_all (WS yX8_all cX8_all 1 (some .int)) rm_X8_all (dC, dI) (tysG cI cZ cQ cW) E0 [.ref z_o] (w_X8_all cI cZ cQ cW z_o z_weight_a z_wants_a z_wantsMany_a z_st_a z_was_a z_images_a z_isKept_a z_told_a z_text_a z_saidWeight_a z_saidNights_a z_saidWants_a z_saidMany_a z_now_a z_gave_a z_at_a z_way_a z_bestWay_a z_made_a z_people z_known z_toldMany z_trace z_texted z_cursor z_start z_token z_number z_isWrong z_items z_saidPeople z_saidLaw z_ringed z_lumps) (fun (_ : Unit) => (w_X8_all cI cZ cQ cW z_o z_weight_a z_wants_a z_wantsMany_a z_st_a z_was_a z_images_a z_isKept_a z_told_a z_text_a z_saidWeight_a z_saidNights_a z_saidWants_a z_saidMany_a z_now_a z_gave_a z_at_a z_way_a z_bestWay_a z_made_a z_people z_known z_toldMany z_trace z_texted z_cursor z_start z_token z_number z_isWrong z_items z_saidPeople z_saidLaw z_ringed z_lumps)) (fun r _ => k r = some res) := by
  refine Ci.of (cc := cX8_all) (n := 1) (by decide +kernel) (Nat.le_of_ble_eq_true rfl) ?_
  intro p e s m args below meth c A ls Q B hW hE hS hl hQ
  have hx := B.1
  have hb := B.2.1
  have hl : lv_has ls 1 [(0, .ref z_o)] := hl
  unfold f_X8_all at h
  refine lv_iconst (pc := 0) (v := 1) hx hb (tb_at tk_X8_all 0 rfl) (by decide) ?_
  refine lv_aload_n (pc := 1) hx hb (tb_at tk_X8_all 1 rfl) rfl (lv_at hl 0 rfl) ?_
  refine k_get (pc := 2) (v := .int z_people) (T := TX8) B inG8 hW 0 rfl rfl 0 (by decide) q_f_X8_68 rfl rfl (tb_at tk_X8_all 2 rfl) ?_
  refine lv_ishl (pc := 5) hx hb (tb_at tk_X8_all 3 rfl) ?_
  refine lv_iconst (pc := 6) (v := 1) hx hb (tb_at tk_X8_all 4 rfl) (by decide) ?_
  refine lv_isub (pc := 7) hx hb (tb_at tk_X8_all 5 rfl) ?_
  exact hQ (((1 : Int32) <<< (z_people &&& 31)) - 1) () _ _ _ 8 rfl h hW hS (tb_at tk_X8_all 6 rfl)
