/-! 08.refb: printed by wip/whole/gen.py: pure functions, and that the bytecode meets them -/
def f_X8_person {ρ : Type} (N : Nat) (z_people : Int32) (z_wantsMany : Nat → Int32) (z_st : Nat → Int32) (z_weight : Nat → Int32) (x1 : Int32) (x2 : Int32) (k : Int32 → Option ρ) : Option ρ := f_X8_isPerson N z_people x1 (fun r2 => if r2 = 0 then (k (-1)) else (if x2 = 0 then (ck (ivi x1 6) (k (z_weight (x1).toNatClampNeg))) else (if x2 = 1 then (ck (ivi ((6 : Int32) + x1) 25) (k (z_st ((6 : Int32) + x1).toNatClampNeg))) else (if x2 = 2 then (ck (ivi ((0 : Int32) + x1) 25) (if (z_st ((0 : Int32) + x1).toNatClampNeg) = 6 then (k (-9)) else (ck (ivi ((0 : Int32) + x1) 25) (k (z_st ((0 : Int32) + x1).toNatClampNeg))))) else (if x2 = 3 then (ck (ivi (12 : Int32) 25) (f_X8_has N (z_st ((12 : Int32)).toNatClampNeg) x1 (fun r96 => if r96 = 0 then (k 0) else (k 1)))) else (if x2 = 4 then (ck (ivi x1 6) (k (z_wantsMany (x1).toNatClampNeg))) else (k (-1))))))))
abbrev w_X8_person (cI cZ cQ cW : ClassId) (z_o : Nat) (z_weight_a : Nat) (z_wants_a : Nat) (z_wantsMany_a : Nat) (z_st_a : Nat) (z_was_a : Nat) (z_images_a : Nat) (z_isKept_a : Nat) (z_told_a : Nat) (z_text_a : Nat) (z_saidWeight_a : Nat) (z_saidNights_a : Nat) (z_saidWants_a : Nat) (z_saidMany_a : Nat) (z_now_a : Nat) (z_gave_a : Nat) (z_at_a : Nat) (z_way_a : Nat) (z_bestWay_a : Nat) (z_made_a : Nat) (z_people : Int32) (z_known : Int32) (z_toldMany : Int32) (z_trace : Int64) (z_texted : Int32) (z_cursor : Int32) (z_start : Int32) (z_token : Int32) (z_number : Int32) (z_isWrong : Int32) (z_items : Int32) (z_saidPeople : Int32) (z_saidLaw : Int32) (z_ringed : Int32) (z_lumps : Int32) (z_wantsMany : Nat → Int32) (z_st : Nat → Int32) (z_weight : Nat → Int32) : va_W := [(z_o, .inr (8, [.int z_people, .ref z_weight_a, .ref z_wants_a, .ref z_wantsMany_a, .ref z_st_a, .ref z_was_a, .int z_known, .ref z_images_a, .ref z_isKept_a, .int z_toldMany, .ref z_told_a, .long z_trace, .ref z_text_a, .int z_texted, .int z_cursor, .int z_start, .int z_token, .int z_number, .int z_isWrong, .int z_items, .int z_saidPeople, .ref z_saidWeight_a, .ref z_saidNights_a, .ref z_saidWants_a, .ref z_saidMany_a, .int z_saidLaw, .ref z_now_a, .ref z_gave_a, .ref z_at_a, .int z_ringed, .int z_lumps, .ref z_way_a, .ref z_bestWay_a, .ref z_made_a])), (z_wantsMany_a, .inl (cI, 6, .inl z_wantsMany)), (z_st_a, .inl (cI, 25, .inl z_st)), (z_weight_a, .inl (cI, 6, .inl z_weight))]
abbrev rm_X8_person : Room := { frames := 2, cells := 0, slots := 0, locals := 43 }
set_option maxHeartbeats 4000000 in
set_option maxRecDepth 100000 in
theorem c_X8_person (l : Launch) (dC : Nat → ClassId) (dI : Nat → Nat → Nat) (cI cZ cQ cW : ClassId) (z_o : Nat) (z_weight_a : Nat) (z_wants_a : Nat) (z_wantsMany_a : Nat) (z_st_a : Nat) (z_was_a : Nat) (z_images_a : Nat) (z_isKept_a : Nat) (z_told_a : Nat) (z_text_a : Nat) (z_saidWeight_a : Nat) (z_saidNights_a : Nat) (z_saidWants_a : Nat) (z_saidMany_a : Nat) (z_now_a : Nat) (z_gave_a : Nat) (z_at_a : Nat) (z_way_a : Nat) (z_bestWay_a : Nat) (z_made_a : Nat) (z_people : Int32) (z_known : Int32) (z_toldMany : Int32) (z_trace : Int64) (z_texted : Int32) (z_cursor : Int32) (z_start : Int32) (z_token : Int32) (z_number : Int32) (z_isWrong : Int32) (z_items : Int32) (z_saidPeople : Int32) (z_saidLaw : Int32) (z_ringed : Int32) (z_lumps : Int32) (z_wantsMany : Nat → Int32) (z_st : Nat → Int32) (z_weight : Nat → Int32) (x1 : Int32) (x2 : Int32) {ρ : Type} (N : Nat) (k : Int32 → Option ρ) (res : ρ) (h : f_X8_person N z_people z_wantsMany z_st z_weight x1 x2 k = some res) : Ci l yX8_person (WS yX8_person cX8_person 3 (some .int)) rm_X8_person (dC, dI) (tysG cI cZ cQ cW) E0 [.ref z_o, .int x1, .int x2] (w_X8_person cI cZ cQ cW z_o z_weight_a z_wants_a z_wantsMany_a z_st_a z_was_a z_images_a z_isKept_a z_told_a z_text_a z_saidWeight_a z_saidNights_a z_saidWants_a z_saidMany_a z_now_a z_gave_a z_at_a z_way_a z_bestWay_a z_made_a z_people z_known z_toldMany z_trace z_texted z_cursor z_start z_token z_number z_isWrong z_items z_saidPeople z_saidLaw z_ringed z_lumps z_wantsMany z_st z_weight) (fun (_ : Unit) => (w_X8_person cI cZ cQ cW z_o z_weight_a z_wants_a z_wantsMany_a z_st_a z_was_a z_images_a z_isKept_a z_told_a z_text_a z_saidWeight_a z_saidNights_a z_saidWants_a z_saidMany_a z_now_a z_gave_a z_at_a z_way_a z_bestWay_a z_made_a z_people z_known z_toldMany z_trace z_texted z_cursor z_start z_token z_number z_isWrong z_items z_saidPeople z_saidLaw z_ringed z_lumps z_wantsMany z_st z_weight)) (fun r _ => k r = some res) := by
  refine Ci.of (cc := cX8_person) (n := 3) (by decide +kernel) (Nat.le_of_ble_eq_true rfl) ?_
  intro p e s m args below meth c A ls Q B hW hE hS hl hQ
  have hx := B.1
  have hb := B.2.1
  have hl : lv_has ls 3 [(0, .ref z_o), (1, .int x1), (2, .int x2)] := hl
  unfold f_X8_person at h
  refine lv_aload_n (pc := 0) hx hb (tb_at tk_X8_person 0 rfl) rfl (lv_at hl 0 rfl) ?_
  refine lv_iload_n (pc := 1) hx hb (tb_at tk_X8_person 1 rfl) rfl (lv_at hl 1 rfl) ?_
  refine k_calli (pc := 2) B (k_runVi (rest := []) (C := RX8) B (c_X8_isPerson l dC dI cI cZ cQ cW z_o z_weight_a z_wants_a z_wantsMany_a z_st_a z_was_a z_images_a z_isKept_a z_told_a z_text_a z_saidWeight_a z_saidNights_a z_saidWants_a z_saidMany_a z_now_a z_gave_a z_at_a z_way_a z_bestWay_a z_made_a z_people z_known z_toldMany z_trace z_texted z_cursor z_start z_token z_number z_isWrong z_items z_saidPeople z_saidLaw z_ringed z_lumps x1 N _ res h) E0_st (fun _ _ _ => trivial) q_c_X8_isPerson q_m_X8_168 q_i_X8_isPerson q_s_X8_isPerson q_n_X8 hd_X8_isPerson ⟨rfl, rfl⟩ ⟨Nat.le_of_ble_eq_true rfl, Nat.le_of_ble_eq_true rfl⟩ hW [0] rfl (by decide +kernel) (q0 := 0) (ci := 8) rfl rfl rfl hl.1 rfl (Nat.le_of_ble_eq_true rfl) (tb_at tk_X8_person 2 rfl) ⟨Nat.zero_le _, Nat.zero_le _⟩) hW hS [0] rfl [z_o] rfl (fun _ => rfl) [some 0, none, none, none] (by decide +kernel) (fun _ => (w_X8_person cI cZ cQ cW z_o z_weight_a z_wants_a z_wantsMany_a z_st_a z_was_a z_images_a z_isKept_a z_told_a z_text_a z_saidWeight_a z_saidNights_a z_saidWants_a z_saidMany_a z_now_a z_gave_a z_at_a z_way_a z_bestWay_a z_made_a z_people z_known z_toldMany z_trace z_texted z_cursor z_start z_token z_number z_isWrong z_items z_saidPeople z_saidLaw z_ringed z_lumps z_wantsMany z_st z_weight)) (fun _ => rfl) (fun r2 u H locs h hW hS => ?_)
  have hW : PD (dC, dI) A (w_X8_person cI cZ cQ cW z_o z_weight_a z_wants_a z_wantsMany_a z_st_a z_was_a z_images_a z_isKept_a z_told_a z_text_a z_saidWeight_a z_saidNights_a z_saidWants_a z_saidMany_a z_now_a z_gave_a z_at_a z_way_a z_bestWay_a z_made_a z_people z_known z_toldMany z_trace z_texted z_cursor z_start z_token z_number z_isWrong z_items z_saidPeople z_saidLaw z_ringed z_lumps z_wantsMany z_st z_weight) H := hW
  refine lv_if_ne (pc := 5) (tgt := 10) hx hb (tb_at tk_X8_person 3 rfl) (by decide) (fun cc => ?_) (fun cc => ?_)
  · have h := it_f cc h
    refine lv_iload_n (pc := 10) hx hb (tb_at tk_X8_person 6 rfl) rfl (lv_at hl 2 rfl) ?_
    by_cases cs0 : x2 = 0
    · have h := it_t cs0 h
      refine lv_tableIn (pc := 11) (tgt := 44) hx hb (tb_at tk_X8_person 7 rfl) (by rw [cs0]; decide) (by rw [cs0]; decide) (off := 33) (by rw [cs0]; rfl) (by decide) ?_
      refine lv_aload_n (pc := 44) hx hb (tb_at tk_X8_person 8 rfl) rfl (lv_at hl 0 rfl) ?_
      refine k_get (pc := 45) (v := .ref z_weight_a) (T := TX8) B inG8 hW 0 rfl rfl 1 (by decide) q_f_X8_7 rfl rfl (tb_at tk_X8_person 9 rfl) ?_
      refine lv_iload_n (pc := 48) hx hb (tb_at tk_X8_person 10 rfl) rfl (lv_at hl 1 rfl) ?_
      have ii := ivi_in (ck_l h)
      have h := ck_r h
      refine k_iald (pc := 49) B hW 3 0 rfl rfl ii (tb_at tk_X8_person 11 rfl) ?_
      exact hQ (z_weight (x1).toNatClampNeg) () _ _ _ 50 rfl h hW hS (tb_at tk_X8_person 12 rfl)
    · have h := it_f cs0 h
      by_cases cs1 : x2 = 1
      · have h := it_t cs1 h
        refine lv_tableIn (pc := 11) (tgt := 51) hx hb (tb_at tk_X8_person 7 rfl) (by rw [cs1]; decide) (by rw [cs1]; decide) (off := 40) (by rw [cs1]; rfl) (by decide) ?_
        refine lv_aload_n (pc := 51) hx hb (tb_at tk_X8_person 13 rfl) rfl (lv_at hl 0 rfl) ?_
        refine k_get (pc := 52) (v := .ref z_st_a) (T := TX8) B inG8 hW 0 rfl rfl 4 (by decide) q_f_X8_19 rfl rfl (tb_at tk_X8_person 14 rfl) ?_
        refine lv_bipush (pc := 55) (v := 6) hx hb (tb_at tk_X8_person 15 rfl) (by decide) ?_
        refine lv_iload_n (pc := 57) hx hb (tb_at tk_X8_person 16 rfl) rfl (lv_at hl 1 rfl) ?_
        refine lv_iadd (pc := 58) hx hb (tb_at tk_X8_person 17 rfl) ?_
        have ii := ivi_in (ck_l h)
        have h := ck_r h
        refine k_iald (pc := 59) B hW 2 0 rfl rfl ii (tb_at tk_X8_person 18 rfl) ?_
        exact hQ (z_st ((6 : Int32) + x1).toNatClampNeg) () _ _ _ 60 rfl h hW hS (tb_at tk_X8_person 19 rfl)
      · have h := it_f cs1 h
        by_cases cs2 : x2 = 2
        · have h := it_t cs2 h
          refine lv_tableIn (pc := 11) (tgt := 61) hx hb (tb_at tk_X8_person 7 rfl) (by rw [cs2]; decide) (by rw [cs2]; decide) (off := 50) (by rw [cs2]; rfl) (by decide) ?_
          refine lv_aload_n (pc := 61) hx hb (tb_at tk_X8_person 20 rfl) rfl (lv_at hl 0 rfl) ?_
          refine k_get (pc := 62) (v := .ref z_st_a) (T := TX8) B inG8 hW 0 rfl rfl 4 (by decide) q_f_X8_19 rfl rfl (tb_at tk_X8_person 21 rfl) ?_
          refine lv_iconst (pc := 65) (v := 0) hx hb (tb_at tk_X8_person 22 rfl) (by decide) ?_
          refine lv_iload_n (pc := 66) hx hb (tb_at tk_X8_person 23 rfl) rfl (lv_at hl 1 rfl) ?_
          refine lv_iadd (pc := 67) hx hb (tb_at tk_X8_person 24 rfl) ?_
          have ii := ivi_in (ck_l h)
          have h := ck_r h
          refine k_iald (pc := 68) B hW 2 0 rfl rfl ii (tb_at tk_X8_person 25 rfl) ?_
          refine lv_bipush (pc := 69) (v := 6) hx hb (tb_at tk_X8_person 26 rfl) (by decide) ?_
          refine lv_icmp_ne (pc := 71) (tgt := 79) hx hb (tb_at tk_X8_person 27 rfl) (by decide) (fun cc => ?_) (fun cc => ?_)
          · have h := it_f cc h
            refine lv_aload_n (pc := 79) hx hb (tb_at tk_X8_person 30 rfl) rfl (lv_at hl 0 rfl) ?_
            refine k_get (pc := 80) (v := .ref z_st_a) (T := TX8) B inG8 hW 0 rfl rfl 4 (by decide) q_f_X8_19 rfl rfl (tb_at tk_X8_person 31 rfl) ?_
            refine lv_iconst (pc := 83) (v := 0) hx hb (tb_at tk_X8_person 32 rfl) (by decide) ?_
            refine lv_iload_n (pc := 84) hx hb (tb_at tk_X8_person 33 rfl) rfl (lv_at hl 1 rfl) ?_
            refine lv_iadd (pc := 85) hx hb (tb_at tk_X8_person 34 rfl) ?_
            have ii := ivi_in (ck_l h)
            have h := ck_r h
            refine k_iald (pc := 86) B hW 2 0 rfl rfl ii (tb_at tk_X8_person 35 rfl) ?_
            exact hQ (z_st ((0 : Int32) + x1).toNatClampNeg) () _ _ _ 87 rfl h hW hS (tb_at tk_X8_person 36 rfl)
          · have h := it_t cc h
            refine lv_bipush (pc := 74) (v := (-9)) hx hb (tb_at tk_X8_person 28 rfl) (by decide) ?_
            refine lv_goto (pc := 76) (tgt := 87) hx hb (tb_at tk_X8_person 29 rfl) (by decide) ?_
            exact hQ (-9) () _ _ _ 87 rfl h hW hS (tb_at tk_X8_person 36 rfl)
        · have h := it_f cs2 h
          by_cases cs3 : x2 = 3
          · have h := it_t cs3 h
            refine lv_tableIn (pc := 11) (tgt := 88) hx hb (tb_at tk_X8_person 7 rfl) (by rw [cs3]; decide) (by rw [cs3]; decide) (off := 77) (by rw [cs3]; rfl) (by decide) ?_
            refine lv_aload_n (pc := 88) hx hb (tb_at tk_X8_person 37 rfl) rfl (lv_at hl 0 rfl) ?_
            refine k_get (pc := 89) (v := .ref z_st_a) (T := TX8) B inG8 hW 0 rfl rfl 4 (by decide) q_f_X8_19 rfl rfl (tb_at tk_X8_person 38 rfl) ?_
            refine lv_bipush (pc := 92) (v := 12) hx hb (tb_at tk_X8_person 39 rfl) (by decide) ?_
            have ii := ivi_in (ck_l h)
            have h := ck_r h
            refine k_iald (pc := 94) B hW 2 0 rfl rfl ii (tb_at tk_X8_person 40 rfl) ?_
            refine lv_iload_n (pc := 95) hx hb (tb_at tk_X8_person 41 rfl) rfl (lv_at hl 1 rfl) ?_
            refine k_call0 (pc := 96) B (k_runSi (rest := []) (host := "") B (c_X8_has l dC dI cI cZ cQ cW   (z_st ((12 : Int32)).toNatClampNeg) x1 N _ res h) E0_st (fun _ _ _ => trivial) q_c_X8_has q_m_X8_113 q_t_X8_has q_n_X8 hd_X8_has ⟨rfl, rfl⟩ ⟨Nat.le_of_ble_eq_true rfl, Nat.le_of_ble_eq_true rfl⟩ hW [] rfl (by decide +kernel) rfl hl.1 rfl (Nat.le_of_ble_eq_true rfl) (tb_at tk_X8_person 42 rfl) ⟨Nat.zero_le _, Nat.zero_le _⟩) hW hS (fun r96 u H locs h hW hS => ?_)
            refine lv_if_eq (pc := 99) (tgt := 106) hx hb (tb_at tk_X8_person 43 rfl) (by decide) (fun cc => ?_) (fun cc => ?_)
            · have h := it_t cc h
              refine lv_iconst (pc := 106) (v := 0) hx hb (tb_at tk_X8_person 46 rfl) (by decide) ?_
              exact hQ 0 () _ _ _ 107 rfl h hW hS (tb_at tk_X8_person 47 rfl)
            · have h := it_f cc h
              refine lv_iconst (pc := 102) (v := 1) hx hb (tb_at tk_X8_person 44 rfl) (by decide) ?_
              refine lv_goto (pc := 103) (tgt := 107) hx hb (tb_at tk_X8_person 45 rfl) (by decide) ?_
              exact hQ 1 () _ _ _ 107 rfl h hW hS (tb_at tk_X8_person 47 rfl)
          · have h := it_f cs3 h
            by_cases cs4 : x2 = 4
            · have h := it_t cs4 h
              refine lv_tableIn (pc := 11) (tgt := 108) hx hb (tb_at tk_X8_person 7 rfl) (by rw [cs4]; decide) (by rw [cs4]; decide) (off := 97) (by rw [cs4]; rfl) (by decide) ?_
              refine lv_aload_n (pc := 108) hx hb (tb_at tk_X8_person 48 rfl) rfl (lv_at hl 0 rfl) ?_
              refine k_get (pc := 109) (v := .ref z_wantsMany_a) (T := TX8) B inG8 hW 0 rfl rfl 3 (by decide) q_f_X8_16 rfl rfl (tb_at tk_X8_person 49 rfl) ?_
              refine lv_iload_n (pc := 112) hx hb (tb_at tk_X8_person 50 rfl) rfl (lv_at hl 1 rfl) ?_
              have ii := ivi_in (ck_l h)
              have h := ck_r h
              refine k_iald (pc := 113) B hW 1 0 rfl rfl ii (tb_at tk_X8_person 51 rfl) ?_
              exact hQ (z_wantsMany (x1).toNatClampNeg) () _ _ _ 114 rfl h hW hS (tb_at tk_X8_person 52 rfl)
            · have h := it_f cs4 h
              refine lv_tableOut (pc := 11) (tgt := 115) hx hb (tb_at tk_X8_person 7 rfl) (ts_out0_4 cs0 cs1 cs2 cs3 cs4) (by decide) ?_
              refine lv_iconst (pc := 115) (v := (-1)) hx hb (tb_at tk_X8_person 53 rfl) (by decide) ?_
              exact hQ (-1) () _ _ _ 116 rfl h hW hS (tb_at tk_X8_person 54 rfl)
  · have h := it_t cc h
    refine lv_iconst (pc := 8) (v := (-1)) hx hb (tb_at tk_X8_person 4 rfl) (by decide) ?_
    exact hQ (-1) () _ _ _ 9 rfl h hW hS (tb_at tk_X8_person 5 rfl)
def f_X8_wants {ρ : Type} (N : Nat) (z_people : Int32) (z_wantsMany : Nat → Int32) (z_wants : Nat → Int32) (x1 : Int32) (x2 : Int32) (k : Int32 → Option ρ) : Option ρ := f_X8_isPerson N z_people x1 (fun r2 => if r2 = 0 then (k (-1)) else (f_X8_in N x2 0 3 (fun r11 => if r11 = 0 then (k (-1)) else (ck (ivi x1 6) (if (z_wantsMany (x1).toNatClampNeg) ≤ x2 then (k (-9)) else (ck (ivi (((4 : Int32) * x1) + x2) 24) (k (z_wants (((4 : Int32) * x1) + x2).toNatClampNeg))))))))
abbrev w_X8_wants (cI cZ cQ cW : ClassId) (z_o : Nat) (z_weight_a : Nat) (z_wants_a : Nat) (z_wantsMany_a : Nat) (z_st_a : Nat) (z_was_a : Nat) (z_images_a : Nat) (z_isKept_a : Nat) (z_told_a : Nat) (z_text_a : Nat) (z_saidWeight_a : Nat) (z_saidNights_a : Nat) (z_saidWants_a : Nat) (z_saidMany_a : Nat) (z_now_a : Nat) (z_gave_a : Nat) (z_at_a : Nat) (z_way_a : Nat) (z_bestWay_a : Nat) (z_made_a : Nat) (z_people : Int32) (z_known : Int32) (z_toldMany : Int32) (z_trace : Int64) (z_texted : Int32) (z_cursor : Int32) (z_start : Int32) (z_token : Int32) (z_number : Int32) (z_isWrong : Int32) (z_items : Int32) (z_saidPeople : Int32) (z_saidLaw : Int32) (z_ringed : Int32) (z_lumps : Int32) (z_wantsMany : Nat → Int32) (z_wants : Nat → Int32) : va_W := [(z_o, .inr (8, [.int z_people, .ref z_weight_a, .ref z_wants_a, .ref z_wantsMany_a, .ref z_st_a, .ref z_was_a, .int z_known, .ref z_images_a, .ref z_isKept_a, .int z_toldMany, .ref z_told_a, .long z_trace, .ref z_text_a, .int z_texted, .int z_cursor, .int z_start, .int z_token, .int z_number, .int z_isWrong, .int z_items, .int z_saidPeople, .ref z_saidWeight_a, .ref z_saidNights_a, .ref z_saidWants_a, .ref z_saidMany_a, .int z_saidLaw, .ref z_now_a, .ref z_gave_a, .ref z_at_a, .int z_ringed, .int z_lumps, .ref z_way_a, .ref z_bestWay_a, .ref z_made_a])), (z_wantsMany_a, .inl (cI, 6, .inl z_wantsMany)), (z_wants_a, .inl (cI, 24, .inl z_wants))]
abbrev rm_X8_wants : Room := { frames := 2, cells := 0, slots := 0, locals := 43 }
set_option maxHeartbeats 4000000 in
set_option maxRecDepth 100000 in
theorem c_X8_wants (l : Launch) (dC : Nat → ClassId) (dI : Nat → Nat → Nat) (cI cZ cQ cW : ClassId) (z_o : Nat) (z_weight_a : Nat) (z_wants_a : Nat) (z_wantsMany_a : Nat) (z_st_a : Nat) (z_was_a : Nat) (z_images_a : Nat) (z_isKept_a : Nat) (z_told_a : Nat) (z_text_a : Nat) (z_saidWeight_a : Nat) (z_saidNights_a : Nat) (z_saidWants_a : Nat) (z_saidMany_a : Nat) (z_now_a : Nat) (z_gave_a : Nat) (z_at_a : Nat) (z_way_a : Nat) (z_bestWay_a : Nat) (z_made_a : Nat) (z_people : Int32) (z_known : Int32) (z_toldMany : Int32) (z_trace : Int64) (z_texted : Int32) (z_cursor : Int32) (z_start : Int32) (z_token : Int32) (z_number : Int32) (z_isWrong : Int32) (z_items : Int32) (z_saidPeople : Int32) (z_saidLaw : Int32) (z_ringed : Int32) (z_lumps : Int32) (z_wantsMany : Nat → Int32) (z_wants : Nat → Int32) (x1 : Int32) (x2 : Int32) {ρ : Type} (N : Nat) (k : Int32 → Option ρ) (res : ρ) (h : f_X8_wants N z_people z_wantsMany z_wants x1 x2 k = some res) : Ci l yX8_wants (WS yX8_wants cX8_wants 3 (some .int)) rm_X8_wants (dC, dI) (tysG cI cZ cQ cW) E0 [.ref z_o, .int x1, .int x2] (w_X8_wants cI cZ cQ cW z_o z_weight_a z_wants_a z_wantsMany_a z_st_a z_was_a z_images_a z_isKept_a z_told_a z_text_a z_saidWeight_a z_saidNights_a z_saidWants_a z_saidMany_a z_now_a z_gave_a z_at_a z_way_a z_bestWay_a z_made_a z_people z_known z_toldMany z_trace z_texted z_cursor z_start z_token z_number z_isWrong z_items z_saidPeople z_saidLaw z_ringed z_lumps z_wantsMany z_wants) (fun (_ : Unit) => (w_X8_wants cI cZ cQ cW z_o z_weight_a z_wants_a z_wantsMany_a z_st_a z_was_a z_images_a z_isKept_a z_told_a z_text_a z_saidWeight_a z_saidNights_a z_saidWants_a z_saidMany_a z_now_a z_gave_a z_at_a z_way_a z_bestWay_a z_made_a z_people z_known z_toldMany z_trace z_texted z_cursor z_start z_token z_number z_isWrong z_items z_saidPeople z_saidLaw z_ringed z_lumps z_wantsMany z_wants)) (fun r _ => k r = some res) := by
  refine Ci.of (cc := cX8_wants) (n := 3) (by decide +kernel) (Nat.le_of_ble_eq_true rfl) ?_
  intro p e s m args below meth c A ls Q B hW hE hS hl hQ
  have hx := B.1
  have hb := B.2.1
  have hl : lv_has ls 3 [(0, .ref z_o), (1, .int x1), (2, .int x2)] := hl
  unfold f_X8_wants at h
  refine lv_aload_n (pc := 0) hx hb (tb_at tk_X8_wants 0 rfl) rfl (lv_at hl 0 rfl) ?_
  refine lv_iload_n (pc := 1) hx hb (tb_at tk_X8_wants 1 rfl) rfl (lv_at hl 1 rfl) ?_
  refine k_calli (pc := 2) B (k_runVi (rest := []) (C := RX8) B (c_X8_isPerson l dC dI cI cZ cQ cW z_o z_weight_a z_wants_a z_wantsMany_a z_st_a z_was_a z_images_a z_isKept_a z_told_a z_text_a z_saidWeight_a z_saidNights_a z_saidWants_a z_saidMany_a z_now_a z_gave_a z_at_a z_way_a z_bestWay_a z_made_a z_people z_known z_toldMany z_trace z_texted z_cursor z_start z_token z_number z_isWrong z_items z_saidPeople z_saidLaw z_ringed z_lumps x1 N _ res h) E0_st (fun _ _ _ => trivial) q_c_X8_isPerson q_m_X8_168 q_i_X8_isPerson q_s_X8_isPerson q_n_X8 hd_X8_isPerson ⟨rfl, rfl⟩ ⟨Nat.le_of_ble_eq_true rfl, Nat.le_of_ble_eq_true rfl⟩ hW [0] rfl (by decide +kernel) (q0 := 0) (ci := 8) rfl rfl rfl hl.1 rfl (Nat.le_of_ble_eq_true rfl) (tb_at tk_X8_wants 2 rfl) ⟨Nat.zero_le _, Nat.zero_le _⟩) hW hS [0] rfl [z_o] rfl (fun _ => rfl) [some 0, none, none] (by decide +kernel) (fun _ => (w_X8_wants cI cZ cQ cW z_o z_weight_a z_wants_a z_wantsMany_a z_st_a z_was_a z_images_a z_isKept_a z_told_a z_text_a z_saidWeight_a z_saidNights_a z_saidWants_a z_saidMany_a z_now_a z_gave_a z_at_a z_way_a z_bestWay_a z_made_a z_people z_known z_toldMany z_trace z_texted z_cursor z_start z_token z_number z_isWrong z_items z_saidPeople z_saidLaw z_ringed z_lumps z_wantsMany z_wants)) (fun _ => rfl) (fun r2 u H locs h hW hS => ?_)
  have hW : PD (dC, dI) A (w_X8_wants cI cZ cQ cW z_o z_weight_a z_wants_a z_wantsMany_a z_st_a z_was_a z_images_a z_isKept_a z_told_a z_text_a z_saidWeight_a z_saidNights_a z_saidWants_a z_saidMany_a z_now_a z_gave_a z_at_a z_way_a z_bestWay_a z_made_a z_people z_known z_toldMany z_trace z_texted z_cursor z_start z_token z_number z_isWrong z_items z_saidPeople z_saidLaw z_ringed z_lumps z_wantsMany z_wants) H := hW
  refine lv_if_eq (pc := 5) (tgt := 17) hx hb (tb_at tk_X8_wants 3 rfl) (by decide) (fun cc => ?_) (fun cc => ?_)
  · have h := it_t cc h
    refine lv_iconst (pc := 17) (v := (-1)) hx hb (tb_at tk_X8_wants 9 rfl) (by decide) ?_
    exact hQ (-1) () _ _ _ 18 rfl h hW hS (tb_at tk_X8_wants 10 rfl)
  · have h := it_f cc h
    refine lv_iload_n (pc := 8) hx hb (tb_at tk_X8_wants 4 rfl) rfl (lv_at hl 2 rfl) ?_
    refine lv_iconst (pc := 9) (v := 0) hx hb (tb_at tk_X8_wants 5 rfl) (by decide) ?_
    refine lv_iconst (pc := 10) (v := 3) hx hb (tb_at tk_X8_wants 6 rfl) (by decide) ?_
    refine k_call0 (pc := 11) B (k_runSi (rest := []) (host := "") B (c_X8_in l dC dI cI cZ cQ cW   x2 0 3 N _ res h) E0_st (fun _ _ _ => trivial) q_c_X8_in q_m_X8_72 q_t_X8_in q_n_X8 hd_X8_in ⟨rfl, rfl⟩ ⟨Nat.le_of_ble_eq_true rfl, Nat.le_of_ble_eq_true rfl⟩ hW [] rfl (by decide +kernel) rfl hl.1 rfl (Nat.le_of_ble_eq_true rfl) (tb_at tk_X8_wants 7 rfl) ⟨Nat.zero_le _, Nat.zero_le _⟩) hW hS (fun r11 u H locs h hW hS => ?_)
    refine lv_if_ne (pc := 14) (tgt := 19) hx hb (tb_at tk_X8_wants 8 rfl) (by decide) (fun cc => ?_) (fun cc => ?_)
    · have h := it_f cc h
      refine lv_iload_n (pc := 19) hx hb (tb_at tk_X8_wants 11 rfl) rfl (lv_at hl 2 rfl) ?_
      refine lv_aload_n (pc := 20) hx hb (tb_at tk_X8_wants 12 rfl) rfl (lv_at hl 0 rfl) ?_
      refine k_get (pc := 21) (v := .ref z_wantsMany_a) (T := TX8) B inG8 hW 0 rfl rfl 3 (by decide) q_f_X8_16 rfl rfl (tb_at tk_X8_wants 13 rfl) ?_
      refine lv_iload_n (pc := 24) hx hb (tb_at tk_X8_wants 14 rfl) rfl (lv_at hl 1 rfl) ?_
      have ii := ivi_in (ck_l h)
      have h := ck_r h
      refine k_iald (pc := 25) B hW 1 0 rfl rfl ii (tb_at tk_X8_wants 15 rfl) ?_
      refine lv_icmp_ge (pc := 26) (tgt := 42) hx hb (tb_at tk_X8_wants 16 rfl) (by decide) (fun cc => ?_) (fun cc => ?_)
      · have h := it_t cc h
        refine lv_bipush (pc := 42) (v := (-9)) hx hb (tb_at tk_X8_wants 26 rfl) (by decide) ?_
        exact hQ (-9) () _ _ _ 44 rfl h hW hS (tb_at tk_X8_wants 27 rfl)
      · have h := it_f cc h
        refine lv_aload_n (pc := 29) hx hb (tb_at tk_X8_wants 17 rfl) rfl (lv_at hl 0 rfl) ?_
        refine k_get (pc := 30) (v := .ref z_wants_a) (T := TX8) B inG8 hW 0 rfl rfl 2 (by decide) q_f_X8_13 rfl rfl (tb_at tk_X8_wants 18 rfl) ?_
        refine lv_iconst (pc := 33) (v := 4) hx hb (tb_at tk_X8_wants 19 rfl) (by decide) ?_
        refine lv_iload_n (pc := 34) hx hb (tb_at tk_X8_wants 20 rfl) rfl (lv_at hl 1 rfl) ?_
        refine lv_imul (pc := 35) hx hb (tb_at tk_X8_wants 21 rfl) ?_
        refine lv_iload_n (pc := 36) hx hb (tb_at tk_X8_wants 22 rfl) rfl (lv_at hl 2 rfl) ?_
        refine lv_iadd (pc := 37) hx hb (tb_at tk_X8_wants 23 rfl) ?_
        have ii := ivi_in (ck_l h)
        have h := ck_r h
        refine k_iald (pc := 38) B hW 2 0 rfl rfl ii (tb_at tk_X8_wants 24 rfl) ?_
        refine lv_goto (pc := 39) (tgt := 44) hx hb (tb_at tk_X8_wants 25 rfl) (by decide) ?_
        exact hQ (z_wants (((4 : Int32) * x1) + x2).toNatClampNeg) () _ _ _ 44 rfl h hW hS (tb_at tk_X8_wants 27 rfl)
    · have h := it_t cc h
      refine lv_iconst (pc := 17) (v := (-1)) hx hb (tb_at tk_X8_wants 9 rfl) (by decide) ?_
      exact hQ (-1) () _ _ _ 18 rfl h hW hS (tb_at tk_X8_wants 10 rfl)
def f_X8_bit {ρ : Type} (N : Nat) (z_st : Nat → Int32) (x1 : Int32) (k : Int32 → Option ρ) : Option ρ := f_X8_in N x1 0 7 (fun r4 => if r4 = 0 then (k (-1)) else (ck (ivi (13 : Int32) 25) (if (z_st ((13 : Int32)).toNatClampNeg) ≤ x1 then (k (-9)) else (ck (ivi ((14 : Int32) + x1) 25) (k (z_st ((14 : Int32) + x1).toNatClampNeg))))))
abbrev w_X8_bit (cI cZ cQ cW : ClassId) (z_o : Nat) (z_weight_a : Nat) (z_wants_a : Nat) (z_wantsMany_a : Nat) (z_st_a : Nat) (z_was_a : Nat) (z_images_a : Nat) (z_isKept_a : Nat) (z_told_a : Nat) (z_text_a : Nat) (z_saidWeight_a : Nat) (z_saidNights_a : Nat) (z_saidWants_a : Nat) (z_saidMany_a : Nat) (z_now_a : Nat) (z_gave_a : Nat) (z_at_a : Nat) (z_way_a : Nat) (z_bestWay_a : Nat) (z_made_a : Nat) (z_people : Int32) (z_known : Int32) (z_toldMany : Int32) (z_trace : Int64) (z_texted : Int32) (z_cursor : Int32) (z_start : Int32) (z_token : Int32) (z_number : Int32) (z_isWrong : Int32) (z_items : Int32) (z_saidPeople : Int32) (z_saidLaw : Int32) (z_ringed : Int32) (z_lumps : Int32) (z_st : Nat → Int32) : va_W := [(z_o, .inr (8, [.int z_people, .ref z_weight_a, .ref z_wants_a, .ref z_wantsMany_a, .ref z_st_a, .ref z_was_a, .int z_known, .ref z_images_a, .ref z_isKept_a, .int z_toldMany, .ref z_told_a, .long z_trace, .ref z_text_a, .int z_texted, .int z_cursor, .int z_start, .int z_token, .int z_number, .int z_isWrong, .int z_items, .int z_saidPeople, .ref z_saidWeight_a, .ref z_saidNights_a, .ref z_saidWants_a, .ref z_saidMany_a, .int z_saidLaw, .ref z_now_a, .ref z_gave_a, .ref z_at_a, .int z_ringed, .int z_lumps, .ref z_way_a, .ref z_bestWay_a, .ref z_made_a])), (z_st_a, .inl (cI, 25, .inl z_st))]
abbrev rm_X8_bit : Room := { frames := 1, cells := 0, slots := 0, locals := 22 }
set_option maxHeartbeats 4000000 in
set_option maxRecDepth 100000 in
theorem c_X8_bit (l : Launch) (dC : Nat → ClassId) (dI : Nat → Nat → Nat) (cI cZ cQ cW : ClassId) (z_o : Nat) (z_weight_a : Nat) (z_wants_a : Nat) (z_wantsMany_a : Nat) (z_st_a : Nat) (z_was_a : Nat) (z_images_a : Nat) (z_isKept_a : Nat) (z_told_a : Nat) (z_text_a : Nat) (z_saidWeight_a : Nat) (z_saidNights_a : Nat) (z_saidWants_a : Nat) (z_saidMany_a : Nat) (z_now_a : Nat) (z_gave_a : Nat) (z_at_a : Nat) (z_way_a : Nat) (z_bestWay_a : Nat) (z_made_a : Nat) (z_people : Int32) (z_known : Int32) (z_toldMany : Int32) (z_trace : Int64) (z_texted : Int32) (z_cursor : Int32) (z_start : Int32) (z_token : Int32) (z_number : Int32) (z_isWrong : Int32) (z_items : Int32) (z_saidPeople : Int32) (z_saidLaw : Int32) (z_ringed : Int32) (z_lumps : Int32) (z_st : Nat → Int32) (x1 : Int32) {ρ : Type} (N : Nat) (k : Int32 → Option ρ) (res : ρ) (h : f_X8_bit N z_st x1 k = some res) : Ci l yX8_bit (WS yX8_bit cX8_bit 2 (some .int)) rm_X8_bit (dC, dI) (tysG cI cZ cQ cW) E0 [.ref z_o, .int x1] (w_X8_bit cI cZ cQ cW z_o z_weight_a z_wants_a z_wantsMany_a z_st_a z_was_a z_images_a z_isKept_a z_told_a z_text_a z_saidWeight_a z_saidNights_a z_saidWants_a z_saidMany_a z_now_a z_gave_a z_at_a z_way_a z_bestWay_a z_made_a z_people z_known z_toldMany z_trace z_texted z_cursor z_start z_token z_number z_isWrong z_items z_saidPeople z_saidLaw z_ringed z_lumps z_st) (fun (_ : Unit) => (w_X8_bit cI cZ cQ cW z_o z_weight_a z_wants_a z_wantsMany_a z_st_a z_was_a z_images_a z_isKept_a z_told_a z_text_a z_saidWeight_a z_saidNights_a z_saidWants_a z_saidMany_a z_now_a z_gave_a z_at_a z_way_a z_bestWay_a z_made_a z_people z_known z_toldMany z_trace z_texted z_cursor z_start z_token z_number z_isWrong z_items z_saidPeople z_saidLaw z_ringed z_lumps z_st)) (fun r _ => k r = some res) := by
  refine Ci.of (cc := cX8_bit) (n := 2) (by decide +kernel) (Nat.le_of_ble_eq_true rfl) ?_
  intro p e s m args below meth c A ls Q B hW hE hS hl hQ
  have hx := B.1
  have hb := B.2.1
  have hl : lv_has ls 2 [(0, .ref z_o), (1, .int x1)] := hl
  unfold f_X8_bit at h
  refine lv_iload_n (pc := 0) hx hb (tb_at tk_X8_bit 0 rfl) rfl (lv_at hl 1 rfl) ?_
  refine lv_iconst (pc := 1) (v := 0) hx hb (tb_at tk_X8_bit 1 rfl) (by decide) ?_
  refine lv_bipush (pc := 2) (v := 7) hx hb (tb_at tk_X8_bit 2 rfl) (by decide) ?_
  refine k_call0 (pc := 4) B (k_runSi (rest := []) (host := "") B (c_X8_in l dC dI cI cZ cQ cW   x1 0 7 N _ res h) E0_st (fun _ _ _ => trivial) q_c_X8_in q_m_X8_72 q_t_X8_in q_n_X8 hd_X8_in ⟨rfl, rfl⟩ ⟨Nat.le_of_ble_eq_true rfl, Nat.le_of_ble_eq_true rfl⟩ hW [] rfl (by decide +kernel) rfl hl.1 rfl (Nat.le_of_ble_eq_true rfl) (tb_at tk_X8_bit 3 rfl) ⟨Nat.zero_le _, Nat.zero_le _⟩) hW hS (fun r4 u H locs h hW hS => ?_)
  refine lv_if_ne (pc := 7) (tgt := 12) hx hb (tb_at tk_X8_bit 4 rfl) (by decide) (fun cc => ?_) (fun cc => ?_)
  · have h := it_f cc h
    refine lv_iload_n (pc := 12) hx hb (tb_at tk_X8_bit 7 rfl) rfl (lv_at hl 1 rfl) ?_
    refine lv_aload_n (pc := 13) hx hb (tb_at tk_X8_bit 8 rfl) rfl (lv_at hl 0 rfl) ?_
    refine k_get (pc := 14) (v := .ref z_st_a) (T := TX8) B inG8 hW 0 rfl rfl 4 (by decide) q_f_X8_19 rfl rfl (tb_at tk_X8_bit 9 rfl) ?_
    refine lv_bipush (pc := 17) (v := 13) hx hb (tb_at tk_X8_bit 10 rfl) (by decide) ?_
    have ii := ivi_in (ck_l h)
    have h := ck_r h
    refine k_iald (pc := 19) B hW 1 0 rfl rfl ii (tb_at tk_X8_bit 11 rfl) ?_
    refine lv_icmp_ge (pc := 20) (tgt := 35) hx hb (tb_at tk_X8_bit 12 rfl) (by decide) (fun cc => ?_) (fun cc => ?_)
    · have h := it_t cc h
      refine lv_bipush (pc := 35) (v := (-9)) hx hb (tb_at tk_X8_bit 20 rfl) (by decide) ?_
      exact hQ (-9) () _ _ _ 37 rfl h hW hS (tb_at tk_X8_bit 21 rfl)
    · have h := it_f cc h
      refine lv_aload_n (pc := 23) hx hb (tb_at tk_X8_bit 13 rfl) rfl (lv_at hl 0 rfl) ?_
      refine k_get (pc := 24) (v := .ref z_st_a) (T := TX8) B inG8 hW 0 rfl rfl 4 (by decide) q_f_X8_19 rfl rfl (tb_at tk_X8_bit 14 rfl) ?_
      refine lv_bipush (pc := 27) (v := 14) hx hb (tb_at tk_X8_bit 15 rfl) (by decide) ?_
      refine lv_iload_n (pc := 29) hx hb (tb_at tk_X8_bit 16 rfl) rfl (lv_at hl 1 rfl) ?_
      refine lv_iadd (pc := 30) hx hb (tb_at tk_X8_bit 17 rfl) ?_
      have ii := ivi_in (ck_l h)
      have h := ck_r h
      refine k_iald (pc := 31) B hW 1 0 rfl rfl ii (tb_at tk_X8_bit 18 rfl) ?_
      refine lv_goto (pc := 32) (tgt := 37) hx hb (tb_at tk_X8_bit 19 rfl) (by decide) ?_
      exact hQ (z_st ((14 : Int32) + x1).toNatClampNeg) () _ _ _ 37 rfl h hW hS (tb_at tk_X8_bit 21 rfl)
  · have h := it_t cc h
    refine lv_iconst (pc := 10) (v := (-1)) hx hb (tb_at tk_X8_bit 5 rfl) (by decide) ?_
    exact hQ (-1) () _ _ _ 11 rfl h hW hS (tb_at tk_X8_bit 6 rfl)
def f_X8_now_e40 {ρ : Type} (x1 : Int32) (z_known : Int32) (z_st : Nat → Int32) (k : Int32 → Option ρ) (y2_e40 : Int32) : Option ρ := if x1 = 0 then (ck (ivi (23 : Int32) 25) (k (z_st ((23 : Int32)).toNatClampNeg))) else (if x1 = 1 then (ck (ivi (12 : Int32) 25) (k (z_st ((12 : Int32)).toNatClampNeg))) else (if x1 = 2 then (ck (ivi (13 : Int32) 25) (k (z_st ((13 : Int32)).toNatClampNeg))) else (if x1 = 3 then (ck (ivi (22 : Int32) 25) (k (z_st ((22 : Int32)).toNatClampNeg))) else (if x1 = 4 then (ck (ivi (24 : Int32) 25) (k (z_st ((24 : Int32)).toNatClampNeg))) else (if x1 = 5 then (k y2_e40) else (if x1 = 6 then (k z_known) else (k (-1))))))))
def f_X8_now_j32 {ρ : Type} (y2_l4 : Int32) (y3_l4 : Int32) (kb4 : Int32 → Int32 → Option ρ) (s1_j32 : Int32) : Option ρ := kb4 (y2_l4 ||| s1_j32) (y3_l4 + 1)
def f_X8_now_l4 {ρ : Type} (z_people : Int32) (z_st : Nat → Int32) (k40 : Int32 → Option ρ) : Nat → Int32 → Int32 → Option ρ
  | 0, _, _ => none
  | n4 + 1, y2_l4, y3_l4 => if z_people ≤ y3_l4 then (k40 y2_l4) else (ck (ivi ((0 : Int32) + y3_l4) 25) (if (z_st ((0 : Int32) + y3_l4).toNatClampNeg) = y3_l4 then (f_X8_now_j32 y2_l4 y3_l4 (f_X8_now_l4 z_people z_st k40 n4) ((1 : Int32) <<< (y3_l4 &&& 31))) else (f_X8_now_j32 y2_l4 y3_l4 (f_X8_now_l4 z_people z_st k40 n4) 0)))
def f_X8_now {ρ : Type} (N : Nat) (z_people : Int32) (z_known : Int32) (z_st : Nat → Int32) (x1 : Int32) (k : Int32 → Option ρ) : Option ρ := f_X8_now_l4 z_people z_st (fun y2_e40 => f_X8_now_e40 x1 z_known z_st k y2_e40) N 0 0
abbrev w_X8_now (cI cZ cQ cW : ClassId) (z_o : Nat) (z_weight_a : Nat) (z_wants_a : Nat) (z_wantsMany_a : Nat) (z_st_a : Nat) (z_was_a : Nat) (z_images_a : Nat) (z_isKept_a : Nat) (z_told_a : Nat) (z_text_a : Nat) (z_saidWeight_a : Nat) (z_saidNights_a : Nat) (z_saidWants_a : Nat) (z_saidMany_a : Nat) (z_now_a : Nat) (z_gave_a : Nat) (z_at_a : Nat) (z_way_a : Nat) (z_bestWay_a : Nat) (z_made_a : Nat) (z_people : Int32) (z_known : Int32) (z_toldMany : Int32) (z_trace : Int64) (z_texted : Int32) (z_cursor : Int32) (z_start : Int32) (z_token : Int32) (z_number : Int32) (z_isWrong : Int32) (z_items : Int32) (z_saidPeople : Int32) (z_saidLaw : Int32) (z_ringed : Int32) (z_lumps : Int32) (z_st : Nat → Int32) : va_W := [(z_o, .inr (8, [.int z_people, .ref z_weight_a, .ref z_wants_a, .ref z_wantsMany_a, .ref z_st_a, .ref z_was_a, .int z_known, .ref z_images_a, .ref z_isKept_a, .int z_toldMany, .ref z_told_a, .long z_trace, .ref z_text_a, .int z_texted, .int z_cursor, .int z_start, .int z_token, .int z_number, .int z_isWrong, .int z_items, .int z_saidPeople, .ref z_saidWeight_a, .ref z_saidNights_a, .ref z_saidWants_a, .ref z_saidMany_a, .int z_saidLaw, .ref z_now_a, .ref z_gave_a, .ref z_at_a, .int z_ringed, .int z_lumps, .ref z_way_a, .ref z_bestWay_a, .ref z_made_a])), (z_st_a, .inl (cI, 25, .inl z_st))]
abbrev rm_X8_now : Room := { frames := 0, cells := 0, slots := 0, locals := 0 }
set_option maxHeartbeats 4000000 in
set_option maxRecDepth 100000 in
theorem c_X8_now (l : Launch) (dC : Nat → ClassId) (dI : Nat → Nat → Nat) (cI cZ cQ cW : ClassId) (z_o : Nat) (z_weight_a : Nat) (z_wants_a : Nat) (z_wantsMany_a : Nat) (z_st_a : Nat) (z_was_a : Nat) (z_images_a : Nat) (z_isKept_a : Nat) (z_told_a : Nat) (z_text_a : Nat) (z_saidWeight_a : Nat) (z_saidNights_a : Nat) (z_saidWants_a : Nat) (z_saidMany_a : Nat) (z_now_a : Nat) (z_gave_a : Nat) (z_at_a : Nat) (z_way_a : Nat) (z_bestWay_a : Nat) (z_made_a : Nat) (z_people : Int32) (z_known : Int32) (z_toldMany : Int32) (z_trace : Int64) (z_texted : Int32) (z_cursor : Int32) (z_start : Int32) (z_token : Int32) (z_number : Int32) (z_isWrong : Int32) (z_items : Int32) (z_saidPeople : Int32) (z_saidLaw : Int32) (z_ringed : Int32) (z_lumps : Int32) (z_st : Nat → Int32) (x1 : Int32) {ρ : Type} (N : Nat) (k : Int32 → Option ρ) (res : ρ) (h : f_X8_now N z_people z_known z_st x1 k = some res) : Ci l yX8_now (WS yX8_now cX8_now 4 (some .int)) rm_X8_now (dC, dI) (tysG cI cZ cQ cW) E0 [.ref z_o, .int x1] (w_X8_now cI cZ cQ cW z_o z_weight_a z_wants_a z_wantsMany_a z_st_a z_was_a z_images_a z_isKept_a z_told_a z_text_a z_saidWeight_a z_saidNights_a z_saidWants_a z_saidMany_a z_now_a z_gave_a z_at_a z_way_a z_bestWay_a z_made_a z_people z_known z_toldMany z_trace z_texted z_cursor z_start z_token z_number z_isWrong z_items z_saidPeople z_saidLaw z_ringed z_lumps z_st) (fun (_ : Unit) => (w_X8_now cI cZ cQ cW z_o z_weight_a z_wants_a z_wantsMany_a z_st_a z_was_a z_images_a z_isKept_a z_told_a z_text_a z_saidWeight_a z_saidNights_a z_saidWants_a z_saidMany_a z_now_a z_gave_a z_at_a z_way_a z_bestWay_a z_made_a z_people z_known z_toldMany z_trace z_texted z_cursor z_start z_token z_number z_isWrong z_items z_saidPeople z_saidLaw z_ringed z_lumps z_st)) (fun r _ => k r = some res) := by
  refine Ci.of (cc := cX8_now) (n := 4) (by decide +kernel) (Nat.le_of_ble_eq_true rfl) ?_
  intro p e s m args below meth c A ls Q B hW hE hS hl hQ
  have hx := B.1
  have hb := B.2.1
  have hl : lv_has ls 4 [(0, .ref z_o), (1, .int x1)] := hl
  unfold f_X8_now at h
  refine lv_iconst (pc := 0) (v := 0) hx hb (tb_at tk_X8_now 0 rfl) (by decide) ?_
  refine lv_istore_n (pc := 1) (lv' := [(2, .int 0), (0, .ref z_o), (1, .int x1)]) hx hb (tb_at tk_X8_now 1 rfl) rfl hl (by decide) rfl (fun ls hl => ?_)
  refine lv_iconst (pc := 2) (v := 0) hx hb (tb_at tk_X8_now 2 rfl) (by decide) ?_
  refine lv_istore_n (pc := 3) (lv' := [(3, .int 0), (2, .int 0), (0, .ref z_o), (1, .int x1)]) hx hb (tb_at tk_X8_now 3 rfl) rfl hl (by decide) rfl (fun ls hl => ?_)
  have w40 : ∀ (y2_e40 : Int32) (H : Heap) (locs : List Loc) (ls : Array Slot), f_X8_now_e40 x1 z_known z_st k y2_e40 = some res → PD (dC, dI) A (w_X8_now cI cZ cQ cW z_o z_weight_a z_wants_a z_wantsMany_a z_st_a z_was_a z_images_a z_isKept_a z_told_a z_text_a z_saidWeight_a z_saidNights_a z_saidWants_a z_saidMany_a z_now_a z_gave_a z_at_a z_way_a z_bestWay_a z_made_a z_people z_known z_toldMany z_trace z_texted z_cursor z_start z_token z_number z_isWrong z_items z_saidPeople z_saidLaw z_ringed z_lumps z_st) H → va_S A s.heap H locs → lv_has ls 4 [(0, .ref z_o), (1, .int x1), (2, .int y2_e40)] → W p l e rm_X8_now s m args below meth c H locs 0 0 Q (F0 m 40 ls []) := by
    intro y2_e40 H locs ls h hW hS hl
    unfold f_X8_now_e40 at h
    refine lv_iload_n (pc := 40) hx hb (tb_at tk_X8_now 26 rfl) rfl (lv_at hl 1 rfl) ?_
    by_cases cs0 : x1 = 0
    · have h := it_t cs0 h
      refine lv_tableIn (pc := 41) (tgt := 84) hx hb (tb_at tk_X8_now 27 rfl) (by rw [cs0]; decide) (by rw [cs0]; decide) (off := 43) (by rw [cs0]; rfl) (by decide) ?_
      refine lv_aload_n (pc := 84) hx hb (tb_at tk_X8_now 28 rfl) rfl (lv_at hl 0 rfl) ?_
      refine k_get (pc := 85) (v := .ref z_st_a) (T := TX8) B inG8 hW 0 rfl rfl 4 (by decide) q_f_X8_19 rfl rfl (tb_at tk_X8_now 29 rfl) ?_
      refine lv_bipush (pc := 88) (v := 23) hx hb (tb_at tk_X8_now 30 rfl) (by decide) ?_
      have ii := ivi_in (ck_l h)
      have h := ck_r h
      refine k_iald (pc := 90) B hW 1 0 rfl rfl ii (tb_at tk_X8_now 31 rfl) ?_
      exact hQ (z_st ((23 : Int32)).toNatClampNeg) () _ _ _ 91 rfl h hW hS (tb_at tk_X8_now 32 rfl)
    · have h := it_f cs0 h
      by_cases cs1 : x1 = 1
      · have h := it_t cs1 h
        refine lv_tableIn (pc := 41) (tgt := 92) hx hb (tb_at tk_X8_now 27 rfl) (by rw [cs1]; decide) (by rw [cs1]; decide) (off := 51) (by rw [cs1]; rfl) (by decide) ?_
        refine lv_aload_n (pc := 92) hx hb (tb_at tk_X8_now 33 rfl) rfl (lv_at hl 0 rfl) ?_
        refine k_get (pc := 93) (v := .ref z_st_a) (T := TX8) B inG8 hW 0 rfl rfl 4 (by decide) q_f_X8_19 rfl rfl (tb_at tk_X8_now 34 rfl) ?_
        refine lv_bipush (pc := 96) (v := 12) hx hb (tb_at tk_X8_now 35 rfl) (by decide) ?_
        have ii := ivi_in (ck_l h)
        have h := ck_r h
        refine k_iald (pc := 98) B hW 1 0 rfl rfl ii (tb_at tk_X8_now 36 rfl) ?_
        exact hQ (z_st ((12 : Int32)).toNatClampNeg) () _ _ _ 99 rfl h hW hS (tb_at tk_X8_now 37 rfl)
      · have h := it_f cs1 h
        by_cases cs2 : x1 = 2
        · have h := it_t cs2 h
          refine lv_tableIn (pc := 41) (tgt := 100) hx hb (tb_at tk_X8_now 27 rfl) (by rw [cs2]; decide) (by rw [cs2]; decide) (off := 59) (by rw [cs2]; rfl) (by decide) ?_
          refine lv_aload_n (pc := 100) hx hb (tb_at tk_X8_now 38 rfl) rfl (lv_at hl 0 rfl) ?_
          refine k_get (pc := 101) (v := .ref z_st_a) (T := TX8) B inG8 hW 0 rfl rfl 4 (by decide) q_f_X8_19 rfl rfl (tb_at tk_X8_now 39 rfl) ?_
          refine lv_bipush (pc := 104) (v := 13) hx hb (tb_at tk_X8_now 40 rfl) (by decide) ?_
          have ii := ivi_in (ck_l h)
          have h := ck_r h
          refine k_iald (pc := 106) B hW 1 0 rfl rfl ii (tb_at tk_X8_now 41 rfl) ?_
          exact hQ (z_st ((13 : Int32)).toNatClampNeg) () _ _ _ 107 rfl h hW hS (tb_at tk_X8_now 42 rfl)
        · have h := it_f cs2 h
          by_cases cs3 : x1 = 3
          · have h := it_t cs3 h
            refine lv_tableIn (pc := 41) (tgt := 108) hx hb (tb_at tk_X8_now 27 rfl) (by rw [cs3]; decide) (by rw [cs3]; decide) (off := 67) (by rw [cs3]; rfl) (by decide) ?_
            refine lv_aload_n (pc := 108) hx hb (tb_at tk_X8_now 43 rfl) rfl (lv_at hl 0 rfl) ?_
            refine k_get (pc := 109) (v := .ref z_st_a) (T := TX8) B inG8 hW 0 rfl rfl 4 (by decide) q_f_X8_19 rfl rfl (tb_at tk_X8_now 44 rfl) ?_
            refine lv_bipush (pc := 112) (v := 22) hx hb (tb_at tk_X8_now 45 rfl) (by decide) ?_
            have ii := ivi_in (ck_l h)
            have h := ck_r h
            refine k_iald (pc := 114) B hW 1 0 rfl rfl ii (tb_at tk_X8_now 46 rfl) ?_
            exact hQ (z_st ((22 : Int32)).toNatClampNeg) () _ _ _ 115 rfl h hW hS (tb_at tk_X8_now 47 rfl)
          · have h := it_f cs3 h
            by_cases cs4 : x1 = 4
            · have h := it_t cs4 h
              refine lv_tableIn (pc := 41) (tgt := 116) hx hb (tb_at tk_X8_now 27 rfl) (by rw [cs4]; decide) (by rw [cs4]; decide) (off := 75) (by rw [cs4]; rfl) (by decide) ?_
              refine lv_aload_n (pc := 116) hx hb (tb_at tk_X8_now 48 rfl) rfl (lv_at hl 0 rfl) ?_
              refine k_get (pc := 117) (v := .ref z_st_a) (T := TX8) B inG8 hW 0 rfl rfl 4 (by decide) q_f_X8_19 rfl rfl (tb_at tk_X8_now 49 rfl) ?_
              refine lv_bipush (pc := 120) (v := 24) hx hb (tb_at tk_X8_now 50 rfl) (by decide) ?_
              have ii := ivi_in (ck_l h)
              have h := ck_r h
              refine k_iald (pc := 122) B hW 1 0 rfl rfl ii (tb_at tk_X8_now 51 rfl) ?_
              exact hQ (z_st ((24 : Int32)).toNatClampNeg) () _ _ _ 123 rfl h hW hS (tb_at tk_X8_now 52 rfl)
            · have h := it_f cs4 h
              by_cases cs5 : x1 = 5
              · have h := it_t cs5 h
                refine lv_tableIn (pc := 41) (tgt := 124) hx hb (tb_at tk_X8_now 27 rfl) (by rw [cs5]; decide) (by rw [cs5]; decide) (off := 83) (by rw [cs5]; rfl) (by decide) ?_
                refine lv_iload_n (pc := 124) hx hb (tb_at tk_X8_now 53 rfl) rfl (lv_at hl 2 rfl) ?_
                exact hQ y2_e40 () _ _ _ 125 rfl h hW hS (tb_at tk_X8_now 54 rfl)
              · have h := it_f cs5 h
                by_cases cs6 : x1 = 6
                · have h := it_t cs6 h
                  refine lv_tableIn (pc := 41) (tgt := 126) hx hb (tb_at tk_X8_now 27 rfl) (by rw [cs6]; decide) (by rw [cs6]; decide) (off := 85) (by rw [cs6]; rfl) (by decide) ?_
                  refine lv_aload_n (pc := 126) hx hb (tb_at tk_X8_now 55 rfl) rfl (lv_at hl 0 rfl) ?_
                  refine k_get (pc := 127) (v := .int z_known) (T := TX8) B inG8 hW 0 rfl rfl 6 (by decide) q_f_X8_135 rfl rfl (tb_at tk_X8_now 56 rfl) ?_
                  exact hQ z_known () _ _ _ 130 rfl h hW hS (tb_at tk_X8_now 57 rfl)
                · have h := it_f cs6 h
                  refine lv_tableOut (pc := 41) (tgt := 131) hx hb (tb_at tk_X8_now 27 rfl) (ts_out0_6 cs0 cs1 cs2 cs3 cs4 cs5 cs6) (by decide) ?_
                  refine lv_iconst (pc := 131) (v := (-1)) hx hb (tb_at tk_X8_now 58 rfl) (by decide) ?_
                  exact hQ (-1) () _ _ _ 132 rfl h hW hS (tb_at tk_X8_now 59 rfl)
  have w4 : ∀ (n : Nat), ∀ (y2_l4 : Int32) (y3_l4 : Int32) (H : Heap) (locs : List Loc) (ls : Array Slot), f_X8_now_l4 z_people z_st (fun y2_e40 => f_X8_now_e40 x1 z_known z_st k y2_e40) n y2_l4 y3_l4 = some res → PD (dC, dI) A (w_X8_now cI cZ cQ cW z_o z_weight_a z_wants_a z_wantsMany_a z_st_a z_was_a z_images_a z_isKept_a z_told_a z_text_a z_saidWeight_a z_saidNights_a z_saidWants_a z_saidMany_a z_now_a z_gave_a z_at_a z_way_a z_bestWay_a z_made_a z_people z_known z_toldMany z_trace z_texted z_cursor z_start z_token z_number z_isWrong z_items z_saidPeople z_saidLaw z_ringed z_lumps z_st) H → va_S A s.heap H locs → lv_has ls 4 [(0, .ref z_o), (1, .int x1), (2, .int y2_l4), (3, .int y3_l4)] → W p l e rm_X8_now s m args below meth c H locs 0 0 Q (F0 m 4 ls []) := by
    intro n
    induction n with
    | zero => intro y2_l4 y3_l4 H locs ls h; exact no_n h
    | succ n4 ih4 =>
      intro y2_l4 y3_l4 H locs ls h hW hS hl
      rw [f_X8_now_l4] at h
      refine lv_iload_n (pc := 4) hx hb (tb_at tk_X8_now 4 rfl) rfl (lv_at hl 3 rfl) ?_
      refine lv_aload_n (pc := 5) hx hb (tb_at tk_X8_now 5 rfl) rfl (lv_at hl 0 rfl) ?_
      refine k_get (pc := 6) (v := .int z_people) (T := TX8) B inG8 hW 0 rfl rfl 0 (by decide) q_f_X8_68 rfl rfl (tb_at tk_X8_now 6 rfl) ?_
      refine lv_icmp_ge (pc := 9) (tgt := 40) hx hb (tb_at tk_X8_now 7 rfl) (by decide) (fun cc => ?_) (fun cc => ?_)
      · have h := it_t cc h
        exact w40 y2_l4 _ _ _ h hW hS (lv_sub hl [0, 1, 2] rfl)
      · have h := it_f cc h
        refine lv_iload_n (pc := 12) hx hb (tb_at tk_X8_now 8 rfl) rfl (lv_at hl 2 rfl) ?_
        refine lv_aload_n (pc := 13) hx hb (tb_at tk_X8_now 9 rfl) rfl (lv_at hl 0 rfl) ?_
        refine k_get (pc := 14) (v := .ref z_st_a) (T := TX8) B inG8 hW 0 rfl rfl 4 (by decide) q_f_X8_19 rfl rfl (tb_at tk_X8_now 10 rfl) ?_
        refine lv_iconst (pc := 17) (v := 0) hx hb (tb_at tk_X8_now 11 rfl) (by decide) ?_
        refine lv_iload_n (pc := 18) hx hb (tb_at tk_X8_now 12 rfl) rfl (lv_at hl 3 rfl) ?_
        refine lv_iadd (pc := 19) hx hb (tb_at tk_X8_now 13 rfl) ?_
        have ii := ivi_in (ck_l h)
        have h := ck_r h
        refine k_iald (pc := 20) B hW 1 0 rfl rfl ii (tb_at tk_X8_now 14 rfl) ?_
        refine lv_iload_n (pc := 21) hx hb (tb_at tk_X8_now 15 rfl) rfl (lv_at hl 3 rfl) ?_
        have w32 : ∀ (s1_j32 : Int32) (H : Heap) (locs : List Loc) (ls : Array Slot), f_X8_now_j32 y2_l4 y3_l4 (f_X8_now_l4 z_people z_st (fun y2_e40 => f_X8_now_e40 x1 z_known z_st k y2_e40) n4) s1_j32 = some res → PD (dC, dI) A (w_X8_now cI cZ cQ cW z_o z_weight_a z_wants_a z_wantsMany_a z_st_a z_was_a z_images_a z_isKept_a z_told_a z_text_a z_saidWeight_a z_saidNights_a z_saidWants_a z_saidMany_a z_now_a z_gave_a z_at_a z_way_a z_bestWay_a z_made_a z_people z_known z_toldMany z_trace z_texted z_cursor z_start z_token z_number z_isWrong z_items z_saidPeople z_saidLaw z_ringed z_lumps z_st) H → va_S A s.heap H locs → lv_has ls 4 [(0, .ref z_o), (1, .int x1), (3, .int y3_l4)] → W p l e rm_X8_now s m args below meth c H locs 0 0 Q (F0 m 32 ls [.int s1_j32, .int y2_l4]) := by
          intro s1_j32 H locs ls h hW hS hl
          unfold f_X8_now_j32 at h
          refine lv_ior (pc := 32) hx hb (tb_at tk_X8_now 22 rfl) ?_
          refine lv_istore_n (pc := 33) (lv' := [(2, .int (y2_l4 ||| s1_j32)), (0, .ref z_o), (1, .int x1), (3, .int y3_l4)]) hx hb (tb_at tk_X8_now 23 rfl) rfl hl (by decide) rfl (fun ls hl => ?_)
          refine lv_iinc (pc := 34) (v := y3_l4 + 1) (lv' := [(3, .int (y3_l4 + 1)), (2, .int (y2_l4 ||| s1_j32)), (0, .ref z_o), (1, .int x1)]) hx hb (tb_at tk_X8_now 24 rfl) hl (k := 3) rfl rfl (by decide) rfl (fun ls hl => ?_)
          refine lv_goto (pc := 37) (tgt := 4) hx hb (tb_at tk_X8_now 25 rfl) (by decide) ?_
          exact ih4 (y2_l4 ||| s1_j32) (y3_l4 + 1) _ _ _ h hW hS (lv_sub hl [2, 3, 1, 0] rfl)
        refine lv_icmp_ne (pc := 22) (tgt := 31) hx hb (tb_at tk_X8_now 16 rfl) (by decide) (fun cc => ?_) (fun cc => ?_)
        · have h := it_f cc h
          refine lv_iconst (pc := 31) (v := 0) hx hb (tb_at tk_X8_now 21 rfl) (by decide) ?_
          exact w32 0 _ _ _ h hW hS (lv_sub hl [0, 1, 3] rfl)
        · have h := it_t cc h
          refine lv_iconst (pc := 25) (v := 1) hx hb (tb_at tk_X8_now 17 rfl) (by decide) ?_
          refine lv_iload_n (pc := 26) hx hb (tb_at tk_X8_now 18 rfl) rfl (lv_at hl 3 rfl) ?_
          refine lv_ishl (pc := 27) hx hb (tb_at tk_X8_now 19 rfl) ?_
          refine lv_goto (pc := 28) (tgt := 32) hx hb (tb_at tk_X8_now 20 rfl) (by decide) ?_
          exact w32 ((1 : Int32) <<< (y3_l4 &&& 31)) _ _ _ h hW hS (lv_sub hl [0, 1, 3] rfl)
  exact w4 N 0 0 _ _ _ h hW hS (lv_sub hl [2, 3, 1, 0] rfl)
def f_X8_remembers_j49 {ρ : Type} (z_st : Nat → Int32) (k : Int32 → (Nat → Int32) → Option ρ) (N : Nat) (z_known_j49 : Int32) (z_was_j49 : Nat → Int32) : Option ρ := f_X8_copy N z_st z_was_j49 25 250 ((25 : Int32) * z_known_j49) 0 (fun z_was_65 => k (z_known_j49 + 1) z_was_65)
def f_X8_remembers_e39 {ρ : Type} (z_known : Int32) (z_st : Nat → Int32) (k : Int32 → (Nat → Int32) → Option ρ) (N : Nat) (z_was_e39 : Nat → Int32) : Option ρ := f_X8_remembers_j49 z_st k N (z_known - 1) z_was_e39
def f_X8_remembers_l11 {ρ : Type} (k39 : (Nat → Int32) → Option ρ) : Nat → Int32 → (Nat → Int32) → Option ρ
  | 0, _, _ => none
  | n11 + 1, y1_l11, z_was_l11 => if 225 ≤ y1_l11 then (k39 z_was_l11) else (ck (ivi (y1_l11 + 25) 250) (ck (ivi y1_l11 250) ((f_X8_remembers_l11 k39 n11) (y1_l11 + 1) (upd z_was_l11 (y1_l11).toNatClampNeg (z_was_l11 (y1_l11 + 25).toNatClampNeg)))))
def f_X8_remembers {ρ : Type} (N : Nat) (z_known : Int32) (z_was : Nat → Int32) (z_st : Nat → Int32) (k : Int32 → (Nat → Int32) → Option ρ) : Option ρ := if z_known = 10 then (f_X8_remembers_l11 (fun z_was_e39 => f_X8_remembers_e39 z_known z_st k N z_was_e39) N 0 z_was) else (f_X8_remembers_j49 z_st k N z_known z_was)
abbrev w_X8_remembers (cI cZ cQ cW : ClassId) (z_o : Nat) (z_weight_a : Nat) (z_wants_a : Nat) (z_wantsMany_a : Nat) (z_st_a : Nat) (z_was_a : Nat) (z_images_a : Nat) (z_isKept_a : Nat) (z_told_a : Nat) (z_text_a : Nat) (z_saidWeight_a : Nat) (z_saidNights_a : Nat) (z_saidWants_a : Nat) (z_saidMany_a : Nat) (z_now_a : Nat) (z_gave_a : Nat) (z_at_a : Nat) (z_way_a : Nat) (z_bestWay_a : Nat) (z_made_a : Nat) (z_people : Int32) (z_known : Int32) (z_toldMany : Int32) (z_trace : Int64) (z_texted : Int32) (z_cursor : Int32) (z_start : Int32) (z_token : Int32) (z_number : Int32) (z_isWrong : Int32) (z_items : Int32) (z_saidPeople : Int32) (z_saidLaw : Int32) (z_ringed : Int32) (z_lumps : Int32) (z_was : Nat → Int32) (z_st : Nat → Int32) : va_W := [(z_o, .inr (8, [.int z_people, .ref z_weight_a, .ref z_wants_a, .ref z_wantsMany_a, .ref z_st_a, .ref z_was_a, .int z_known, .ref z_images_a, .ref z_isKept_a, .int z_toldMany, .ref z_told_a, .long z_trace, .ref z_text_a, .int z_texted, .int z_cursor, .int z_start, .int z_token, .int z_number, .int z_isWrong, .int z_items, .int z_saidPeople, .ref z_saidWeight_a, .ref z_saidNights_a, .ref z_saidWants_a, .ref z_saidMany_a, .int z_saidLaw, .ref z_now_a, .ref z_gave_a, .ref z_at_a, .int z_ringed, .int z_lumps, .ref z_way_a, .ref z_bestWay_a, .ref z_made_a])), (z_was_a, .inl (cI, 250, .inl z_was)), (z_st_a, .inl (cI, 25, .inl z_st))]
abbrev rm_X8_remembers : Room := { frames := 1, cells := 0, slots := 0, locals := 24 }
set_option maxHeartbeats 4000000 in
set_option maxRecDepth 100000 in
theorem c_X8_remembers (l : Launch) (dC : Nat → ClassId) (dI : Nat → Nat → Nat) (cI cZ cQ cW : ClassId) (z_o : Nat) (z_weight_a : Nat) (z_wants_a : Nat) (z_wantsMany_a : Nat) (z_st_a : Nat) (z_was_a : Nat) (z_images_a : Nat) (z_isKept_a : Nat) (z_told_a : Nat) (z_text_a : Nat) (z_saidWeight_a : Nat) (z_saidNights_a : Nat) (z_saidWants_a : Nat) (z_saidMany_a : Nat) (z_now_a : Nat) (z_gave_a : Nat) (z_at_a : Nat) (z_way_a : Nat) (z_bestWay_a : Nat) (z_made_a : Nat) (z_people : Int32) (z_known : Int32) (z_toldMany : Int32) (z_trace : Int64) (z_texted : Int32) (z_cursor : Int32) (z_start : Int32) (z_token : Int32) (z_number : Int32) (z_isWrong : Int32) (z_items : Int32) (z_saidPeople : Int32) (z_saidLaw : Int32) (z_ringed : Int32) (z_lumps : Int32) (z_was : Nat → Int32) (z_st : Nat → Int32) {ρ : Type} (N : Nat) (k : Int32 → (Nat → Int32) → Option ρ) (res : ρ) (h : f_X8_remembers N z_known z_was z_st k = some res) : Cv l yX8_remembers (WS yX8_remembers cX8_remembers 2 none) rm_X8_remembers (dC, dI) (tysG cI cZ cQ cW) E0 [.ref z_o] (w_X8_remembers cI cZ cQ cW z_o z_weight_a z_wants_a z_wantsMany_a z_st_a z_was_a z_images_a z_isKept_a z_told_a z_text_a z_saidWeight_a z_saidNights_a z_saidWants_a z_saidMany_a z_now_a z_gave_a z_at_a z_way_a z_bestWay_a z_made_a z_people z_known z_toldMany z_trace z_texted z_cursor z_start z_token z_number z_isWrong z_items z_saidPeople z_saidLaw z_ringed z_lumps z_was z_st) (fun (u : Int32 × (Nat → Int32)) => (w_X8_remembers cI cZ cQ cW z_o z_weight_a z_wants_a z_wantsMany_a z_st_a z_was_a z_images_a z_isKept_a z_told_a z_text_a z_saidWeight_a z_saidNights_a z_saidWants_a z_saidMany_a z_now_a z_gave_a z_at_a z_way_a z_bestWay_a z_made_a z_people u.1 z_toldMany z_trace z_texted z_cursor z_start z_token z_number z_isWrong z_items z_saidPeople z_saidLaw z_ringed z_lumps u.2 z_st)) (fun u => k u.1 u.2 = some res) := by
  refine Cv.of (cc := cX8_remembers) (n := 2) (by decide +kernel) (Nat.le_of_ble_eq_true rfl) ?_
  intro p e s m args below meth c A ls Q B hW hE hS hl hQ
  have hx := B.1
  have hb := B.2.1
  have hl : lv_has ls 2 [(0, .ref z_o)] := hl
  unfold f_X8_remembers at h
  refine lv_aload_n (pc := 0) hx hb (tb_at tk_X8_remembers 0 rfl) rfl (lv_at hl 0 rfl) ?_
  refine k_get (pc := 1) (v := .int z_known) (T := TX8) B inG8 hW 0 rfl rfl 6 (by decide) q_f_X8_135 rfl rfl (tb_at tk_X8_remembers 1 rfl) ?_
  refine lv_bipush (pc := 4) (v := 10) hx hb (tb_at tk_X8_remembers 2 rfl) (by decide) ?_
  have w49 : ∀ (z_known_j49 : Int32) (z_was_j49 : Nat → Int32) (H : Heap) (locs : List Loc) (ls : Array Slot), f_X8_remembers_j49 z_st k N z_known_j49 z_was_j49 = some res → PD (dC, dI) A (w_X8_remembers cI cZ cQ cW z_o z_weight_a z_wants_a z_wantsMany_a z_st_a z_was_a z_images_a z_isKept_a z_told_a z_text_a z_saidWeight_a z_saidNights_a z_saidWants_a z_saidMany_a z_now_a z_gave_a z_at_a z_way_a z_bestWay_a z_made_a z_people z_known_j49 z_toldMany z_trace z_texted z_cursor z_start z_token z_number z_isWrong z_items z_saidPeople z_saidLaw z_ringed z_lumps z_was_j49 z_st) H → va_S A s.heap H locs → lv_has ls 2 [(0, .ref z_o)] → W p l e rm_X8_remembers s m args below meth c H locs 0 0 Q (F0 m 49 ls []) := by
    intro z_known_j49 z_was_j49 H locs ls h hW hS hl
    unfold f_X8_remembers_j49 at h
    refine lv_aload_n (pc := 49) hx hb (tb_at tk_X8_remembers 27 rfl) rfl (lv_at hl 0 rfl) ?_
    refine k_get (pc := 50) (v := .ref z_was_a) (T := TX8) B inG8 hW 0 rfl rfl 5 (by decide) q_f_X8_22 rfl rfl (tb_at tk_X8_remembers 28 rfl) ?_
    refine lv_bipush (pc := 53) (v := 25) hx hb (tb_at tk_X8_remembers 29 rfl) (by decide) ?_
    refine lv_aload_n (pc := 55) hx hb (tb_at tk_X8_remembers 30 rfl) rfl (lv_at hl 0 rfl) ?_
    refine k_get (pc := 56) (v := .int z_known_j49) (T := TX8) B inG8 hW 0 rfl rfl 6 (by decide) q_f_X8_135 rfl rfl (tb_at tk_X8_remembers 31 rfl) ?_
    refine lv_imul (pc := 59) hx hb (tb_at tk_X8_remembers 32 rfl) ?_
    refine lv_aload_n (pc := 60) hx hb (tb_at tk_X8_remembers 33 rfl) rfl (lv_at hl 0 rfl) ?_
    refine k_get (pc := 61) (v := .ref z_st_a) (T := TX8) B inG8 hW 0 rfl rfl 4 (by decide) q_f_X8_19 rfl rfl (tb_at tk_X8_remembers 34 rfl) ?_
    refine lv_iconst (pc := 64) (v := 0) hx hb (tb_at tk_X8_remembers 35 rfl) (by decide) ?_
    refine k_callv (pc := 65) B (k_runSv (rest := []) (host := "") B (c_X8_copy l dC dI cI cZ cQ cW z_st_a 25 z_was_a 250 z_st z_was_j49 ((25 : Int32) * z_known_j49) 0 N _ res h) E0_st (fun _ _ _ => trivial) q_c_X8_copy q_m_X8_141 q_t_X8_copy q_n_X8 hd_X8_copy ⟨rfl, rfl⟩ ⟨Nat.le_of_ble_eq_true rfl, Nat.le_of_ble_eq_true rfl⟩ hW [2, 1] rfl (by decide +kernel) rfl hl.1 rfl (Nat.le_of_ble_eq_true rfl) (tb_at tk_X8_remembers 36 rfl) ⟨Nat.zero_le _, Nat.zero_le _⟩) hW hS [2, 1] rfl [z_st_a, z_was_a] rfl (fun _ => rfl) [none, some 1, some 0] (by decide +kernel) (fun u => (w_X8_remembers cI cZ cQ cW z_o z_weight_a z_wants_a z_wantsMany_a z_st_a z_was_a z_images_a z_isKept_a z_told_a z_text_a z_saidWeight_a z_saidNights_a z_saidWants_a z_saidMany_a z_now_a z_gave_a z_at_a z_way_a z_bestWay_a z_made_a z_people z_known_j49 z_toldMany z_trace z_texted z_cursor z_start z_token z_number z_isWrong z_items z_saidPeople z_saidLaw z_ringed z_lumps u z_st)) (fun _ => rfl) (fun u H locs h hW hS => ?_)
    obtain ⟨z_was_65, rfl⟩ : ∃ z9, z9 = u := ⟨_, rfl⟩
    have hW : PD (dC, dI) A (w_X8_remembers cI cZ cQ cW z_o z_weight_a z_wants_a z_wantsMany_a z_st_a z_was_a z_images_a z_isKept_a z_told_a z_text_a z_saidWeight_a z_saidNights_a z_saidWants_a z_saidMany_a z_now_a z_gave_a z_at_a z_way_a z_bestWay_a z_made_a z_people z_known_j49 z_toldMany z_trace z_texted z_cursor z_start z_token z_number z_isWrong z_items z_saidPeople z_saidLaw z_ringed z_lumps z_was_65 z_st) H := hW
    refine lv_aload_n (pc := 68) hx hb (tb_at tk_X8_remembers 37 rfl) rfl (lv_at hl 0 rfl) ?_
    refine lv_dup (pc := 69) hx hb (tb_at tk_X8_remembers 38 rfl) rfl ?_
    refine k_get (pc := 70) (v := .int z_known_j49) (T := TX8) B inG8 hW 0 rfl rfl 6 (by decide) q_f_X8_135 rfl rfl (tb_at tk_X8_remembers 39 rfl) ?_
    refine lv_iconst (pc := 73) (v := 1) hx hb (tb_at tk_X8_remembers 40 rfl) (by decide) ?_
    refine lv_iadd (pc := 74) hx hb (tb_at tk_X8_remembers 41 rfl) ?_
    refine k_put (pc := 75) (T := TX8) B inG8 tyX8 tyX8_ok nmX8 hW hS 0 rfl rfl 6 (by decide) q_f_X8_135 rfl rfl rfl rfl (Nat.le_of_ble_eq_true rfl) (tb_at tk_X8_remembers 42 rfl) (w_X8_remembers cI cZ cQ cW z_o z_weight_a z_wants_a z_wantsMany_a z_st_a z_was_a z_images_a z_isKept_a z_told_a z_text_a z_saidWeight_a z_saidNights_a z_saidWants_a z_saidMany_a z_now_a z_gave_a z_at_a z_way_a z_bestWay_a z_made_a z_people (z_known_j49 + 1) z_toldMany z_trace z_texted z_cursor z_start z_token z_number z_isWrong z_items z_saidPeople z_saidLaw z_ringed z_lumps z_was_65 z_st) rfl (fun H locs hW hS => ?_)
    exact hQ (z_known_j49 + 1, z_was_65) _ _ _ 78 h hW hS (tb_at tk_X8_remembers 43 rfl)
  refine lv_icmp_ne (pc := 6) (tgt := 49) hx hb (tb_at tk_X8_remembers 3 rfl) (by decide) (fun cc => ?_) (fun cc => ?_)
  · have h := it_f cc h
    exact w49 z_known z_was _ _ _ h hW hS (lv_sub hl [0] rfl)
  · have h := it_t cc h
    refine lv_iconst (pc := 9) (v := 0) hx hb (tb_at tk_X8_remembers 4 rfl) (by decide) ?_
    refine lv_istore_n (pc := 10) (lv' := [(1, .int 0), (0, .ref z_o)]) hx hb (tb_at tk_X8_remembers 5 rfl) rfl hl (by decide) rfl (fun ls hl => ?_)
    have w39 : ∀ (z_was_e39 : Nat → Int32) (H : Heap) (locs : List Loc) (ls : Array Slot), f_X8_remembers_e39 z_known z_st k N z_was_e39 = some res → PD (dC, dI) A (w_X8_remembers cI cZ cQ cW z_o z_weight_a z_wants_a z_wantsMany_a z_st_a z_was_a z_images_a z_isKept_a z_told_a z_text_a z_saidWeight_a z_saidNights_a z_saidWants_a z_saidMany_a z_now_a z_gave_a z_at_a z_way_a z_bestWay_a z_made_a z_people z_known z_toldMany z_trace z_texted z_cursor z_start z_token z_number z_isWrong z_items z_saidPeople z_saidLaw z_ringed z_lumps z_was_e39 z_st) H → va_S A s.heap H locs → lv_has ls 2 [(0, .ref z_o)] → W p l e rm_X8_remembers s m args below meth c H locs 0 0 Q (F0 m 39 ls []) := by
      intro z_was_e39 H locs ls h hW hS hl
      unfold f_X8_remembers_e39 at h
      refine lv_aload_n (pc := 39) hx hb (tb_at tk_X8_remembers 21 rfl) rfl (lv_at hl 0 rfl) ?_
      refine lv_dup (pc := 40) hx hb (tb_at tk_X8_remembers 22 rfl) rfl ?_
      refine k_get (pc := 41) (v := .int z_known) (T := TX8) B inG8 hW 0 rfl rfl 6 (by decide) q_f_X8_135 rfl rfl (tb_at tk_X8_remembers 23 rfl) ?_
      refine lv_iconst (pc := 44) (v := 1) hx hb (tb_at tk_X8_remembers 24 rfl) (by decide) ?_
      refine lv_isub (pc := 45) hx hb (tb_at tk_X8_remembers 25 rfl) ?_
      refine k_put (pc := 46) (T := TX8) B inG8 tyX8 tyX8_ok nmX8 hW hS 0 rfl rfl 6 (by decide) q_f_X8_135 rfl rfl rfl rfl (Nat.le_of_ble_eq_true rfl) (tb_at tk_X8_remembers 26 rfl) (w_X8_remembers cI cZ cQ cW z_o z_weight_a z_wants_a z_wantsMany_a z_st_a z_was_a z_images_a z_isKept_a z_told_a z_text_a z_saidWeight_a z_saidNights_a z_saidWants_a z_saidMany_a z_now_a z_gave_a z_at_a z_way_a z_bestWay_a z_made_a z_people (z_known - 1) z_toldMany z_trace z_texted z_cursor z_start z_token z_number z_isWrong z_items z_saidPeople z_saidLaw z_ringed z_lumps z_was_e39 z_st) rfl (fun H locs hW hS => ?_)
      exact w49 (z_known - 1) z_was_e39 _ _ _ h hW hS (lv_sub hl [0] rfl)
    have w11 : ∀ (n : Nat), ∀ (y1_l11 : Int32) (z_was_l11 : Nat → Int32) (H : Heap) (locs : List Loc) (ls : Array Slot), f_X8_remembers_l11 (fun z_was_e39 => f_X8_remembers_e39 z_known z_st k N z_was_e39) n y1_l11 z_was_l11 = some res → PD (dC, dI) A (w_X8_remembers cI cZ cQ cW z_o z_weight_a z_wants_a z_wantsMany_a z_st_a z_was_a z_images_a z_isKept_a z_told_a z_text_a z_saidWeight_a z_saidNights_a z_saidWants_a z_saidMany_a z_now_a z_gave_a z_at_a z_way_a z_bestWay_a z_made_a z_people z_known z_toldMany z_trace z_texted z_cursor z_start z_token z_number z_isWrong z_items z_saidPeople z_saidLaw z_ringed z_lumps z_was_l11 z_st) H → va_S A s.heap H locs → lv_has ls 2 [(0, .ref z_o), (1, .int y1_l11)] → W p l e rm_X8_remembers s m args below meth c H locs 0 0 Q (F0 m 11 ls []) := by
      intro n
      induction n with
      | zero => intro y1_l11 z_was_l11 H locs ls h; exact no_n h
      | succ n11 ih11 =>
        intro y1_l11 z_was_l11 H locs ls h hW hS hl
        rw [f_X8_remembers_l11] at h
        refine lv_iload_n (pc := 11) hx hb (tb_at tk_X8_remembers 6 rfl) rfl (lv_at hl 1 rfl) ?_
        refine lv_sipush (pc := 12) (v := 225) hx hb (tb_at tk_X8_remembers 7 rfl) (by decide) ?_
        refine lv_icmp_ge (pc := 15) (tgt := 39) hx hb (tb_at tk_X8_remembers 8 rfl) (by decide) (fun cc => ?_) (fun cc => ?_)
        · have h := it_t cc h
          exact w39 z_was_l11 _ _ _ h hW hS (lv_sub hl [0] rfl)
        · have h := it_f cc h
          refine lv_aload_n (pc := 18) hx hb (tb_at tk_X8_remembers 9 rfl) rfl (lv_at hl 0 rfl) ?_
          refine k_get (pc := 19) (v := .ref z_was_a) (T := TX8) B inG8 hW 0 rfl rfl 5 (by decide) q_f_X8_22 rfl rfl (tb_at tk_X8_remembers 10 rfl) ?_
          refine lv_iload_n (pc := 22) hx hb (tb_at tk_X8_remembers 11 rfl) rfl (lv_at hl 1 rfl) ?_
          refine lv_aload_n (pc := 23) hx hb (tb_at tk_X8_remembers 12 rfl) rfl (lv_at hl 0 rfl) ?_
          refine k_get (pc := 24) (v := .ref z_was_a) (T := TX8) B inG8 hW 0 rfl rfl 5 (by decide) q_f_X8_22 rfl rfl (tb_at tk_X8_remembers 13 rfl) ?_
          refine lv_iload_n (pc := 27) hx hb (tb_at tk_X8_remembers 14 rfl) rfl (lv_at hl 1 rfl) ?_
          refine lv_bipush (pc := 28) (v := 25) hx hb (tb_at tk_X8_remembers 15 rfl) (by decide) ?_
          refine lv_iadd (pc := 30) hx hb (tb_at tk_X8_remembers 16 rfl) ?_
          have ii := ivi_in (ck_l h)
          have h := ck_r h
          refine k_iald (pc := 31) B hW 1 0 rfl rfl ii (tb_at tk_X8_remembers 17 rfl) ?_
          have ii := ivi_in (ck_l h)
          have h := ck_r h
          refine k_iast (pc := 32) B hW hS 1 0 rfl rfl ii (tb_at tk_X8_remembers 18 rfl) (w_X8_remembers cI cZ cQ cW z_o z_weight_a z_wants_a z_wantsMany_a z_st_a z_was_a z_images_a z_isKept_a z_told_a z_text_a z_saidWeight_a z_saidNights_a z_saidWants_a z_saidMany_a z_now_a z_gave_a z_at_a z_way_a z_bestWay_a z_made_a z_people z_known z_toldMany z_trace z_texted z_cursor z_start z_token z_number z_isWrong z_items z_saidPeople z_saidLaw z_ringed z_lumps (upd z_was_l11 (y1_l11).toNatClampNeg (z_was_l11 (y1_l11 + 25).toNatClampNeg)) z_st) rfl (fun H locs hW hS => ?_)
          refine lv_iinc (pc := 33) (v := y1_l11 + 1) (lv' := [(1, .int (y1_l11 + 1)), (0, .ref z_o)]) hx hb (tb_at tk_X8_remembers 19 rfl) hl (k := 1) rfl rfl (by decide) rfl (fun ls hl => ?_)
          refine lv_goto (pc := 36) (tgt := 11) hx hb (tb_at tk_X8_remembers 20 rfl) (by decide) ?_
          exact ih11 (y1_l11 + 1) (upd z_was_l11 (y1_l11).toNatClampNeg (z_was_l11 (y1_l11 + 25).toNatClampNeg)) _ _ _ h hW hS (lv_sub hl [1, 0] rfl)
    exact w11 N 0 z_was _ _ _ h hW hS (lv_sub hl [1, 0] rfl)
def f_X8_gives {ρ : Type} (N : Nat) (z_people : Int32) (z_known : Int32) (z_st : Nat → Int32) (z_was : Nat → Int32) (x1 : Int32) (k : Int32 → Int32 → (Nat → Int32) → (Nat → Int32) → Option ρ) : Option ρ := f_X8_isPerson N z_people x1 (fun r2 => if r2 = 0 then (k (-1) z_known z_st z_was) else (f_X8_able N z_people z_st (fun r11 => f_X8_has N r11 x1 (fun r15 => if r15 = 0 then (k (-2) z_known z_st z_was) else (ck (ivi (12 : Int32) 25) (f_X8_has N (z_st ((12 : Int32)).toNatClampNeg) x1 (fun r29 => if r29 = 0 then (f_X8_remembers N z_known z_was z_st (fun z_known_39 z_was_39 => ck (ivi (12 : Int32) 25) (ck (ivi (12 : Int32) 25) (ck (ivi (12 : Int32) 25) (f_X8_bits N ((upd z_st ((12 : Int32)).toNatClampNeg ((z_st ((12 : Int32)).toNatClampNeg) ||| ((1 : Int32) <<< (x1 &&& 31)))) ((12 : Int32)).toNatClampNeg) (fun r62 => k r62 z_known_39 (upd z_st ((12 : Int32)).toNatClampNeg ((z_st ((12 : Int32)).toNatClampNeg) ||| ((1 : Int32) <<< (x1 &&& 31)))) z_was_39)))))) else (k (-2) z_known z_st z_was))))))))
abbrev w_X8_gives (cI cZ cQ cW : ClassId) (z_o : Nat) (z_weight_a : Nat) (z_wants_a : Nat) (z_wantsMany_a : Nat) (z_st_a : Nat) (z_was_a : Nat) (z_images_a : Nat) (z_isKept_a : Nat) (z_told_a : Nat) (z_text_a : Nat) (z_saidWeight_a : Nat) (z_saidNights_a : Nat) (z_saidWants_a : Nat) (z_saidMany_a : Nat) (z_now_a : Nat) (z_gave_a : Nat) (z_at_a : Nat) (z_way_a : Nat) (z_bestWay_a : Nat) (z_made_a : Nat) (z_people : Int32) (z_known : Int32) (z_toldMany : Int32) (z_trace : Int64) (z_texted : Int32) (z_cursor : Int32) (z_start : Int32) (z_token : Int32) (z_number : Int32) (z_isWrong : Int32) (z_items : Int32) (z_saidPeople : Int32) (z_saidLaw : Int32) (z_ringed : Int32) (z_lumps : Int32) (z_st : Nat → Int32) (z_was : Nat → Int32) : va_W := [(z_o, .inr (8, [.int z_people, .ref z_weight_a, .ref z_wants_a, .ref z_wantsMany_a, .ref z_st_a, .ref z_was_a, .int z_known, .ref z_images_a, .ref z_isKept_a, .int z_toldMany, .ref z_told_a, .long z_trace, .ref z_text_a, .int z_texted, .int z_cursor, .int z_start, .int z_token, .int z_number, .int z_isWrong, .int z_items, .int z_saidPeople, .ref z_saidWeight_a, .ref z_saidNights_a, .ref z_saidWants_a, .ref z_saidMany_a, .int z_saidLaw, .ref z_now_a, .ref z_gave_a, .ref z_at_a, .int z_ringed, .int z_lumps, .ref z_way_a, .ref z_bestWay_a, .ref z_made_a])), (z_st_a, .inl (cI, 25, .inl z_st)), (z_was_a, .inl (cI, 250, .inl z_was))]
abbrev rm_X8_gives : Room := { frames := 2, cells := 0, slots := 0, locals := 45 }
set_option maxHeartbeats 4000000 in
set_option maxRecDepth 100000 in
theorem c_X8_gives (l : Launch) (dC : Nat → ClassId) (dI : Nat → Nat → Nat) (cI cZ cQ cW : ClassId) (z_o : Nat) (z_weight_a : Nat) (z_wants_a : Nat) (z_wantsMany_a : Nat) (z_st_a : Nat) (z_was_a : Nat) (z_images_a : Nat) (z_isKept_a : Nat) (z_told_a : Nat) (z_text_a : Nat) (z_saidWeight_a : Nat) (z_saidNights_a : Nat) (z_saidWants_a : Nat) (z_saidMany_a : Nat) (z_now_a : Nat) (z_gave_a : Nat) (z_at_a : Nat) (z_way_a : Nat) (z_bestWay_a : Nat) (z_made_a : Nat) (z_people : Int32) (z_known : Int32) (z_toldMany : Int32) (z_trace : Int64) (z_texted : Int32) (z_cursor : Int32) (z_start : Int32) (z_token : Int32) (z_number : Int32) (z_isWrong : Int32) (z_items : Int32) (z_saidPeople : Int32) (z_saidLaw : Int32) (z_ringed : Int32) (z_lumps : Int32) (z_st : Nat → Int32) (z_was : Nat → Int32) (x1 : Int32) {ρ : Type} (N : Nat) (k : Int32 → Int32 → (Nat → Int32) → (Nat → Int32) → Option ρ) (res : ρ) (h : f_X8_gives N z_people z_known z_st z_was x1 k = some res) : Ci l yX8_gives (WS yX8_gives cX8_gives 2 (some .int)) rm_X8_gives (dC, dI) (tysG cI cZ cQ cW) E0 [.ref z_o, .int x1] (w_X8_gives cI cZ cQ cW z_o z_weight_a z_wants_a z_wantsMany_a z_st_a z_was_a z_images_a z_isKept_a z_told_a z_text_a z_saidWeight_a z_saidNights_a z_saidWants_a z_saidMany_a z_now_a z_gave_a z_at_a z_way_a z_bestWay_a z_made_a z_people z_known z_toldMany z_trace z_texted z_cursor z_start z_token z_number z_isWrong z_items z_saidPeople z_saidLaw z_ringed z_lumps z_st z_was) (fun (u : Int32 × (Nat → Int32) × (Nat → Int32)) => (w_X8_gives cI cZ cQ cW z_o z_weight_a z_wants_a z_wantsMany_a z_st_a z_was_a z_images_a z_isKept_a z_told_a z_text_a z_saidWeight_a z_saidNights_a z_saidWants_a z_saidMany_a z_now_a z_gave_a z_at_a z_way_a z_bestWay_a z_made_a z_people u.1 z_toldMany z_trace z_texted z_cursor z_start z_token z_number z_isWrong z_items z_saidPeople z_saidLaw z_ringed z_lumps u.2.1 u.2.2)) (fun r u => k r u.1 u.2.1 u.2.2 = some res) := by
  refine Ci.of (cc := cX8_gives) (n := 2) (by decide +kernel) (Nat.le_of_ble_eq_true rfl) ?_
  intro p e s m args below meth c A ls Q B hW hE hS hl hQ
  have hx := B.1
  have hb := B.2.1
  have hl : lv_has ls 2 [(0, .ref z_o), (1, .int x1)] := hl
  unfold f_X8_gives at h
  refine lv_aload_n (pc := 0) hx hb (tb_at tk_X8_gives 0 rfl) rfl (lv_at hl 0 rfl) ?_
  refine lv_iload_n (pc := 1) hx hb (tb_at tk_X8_gives 1 rfl) rfl (lv_at hl 1 rfl) ?_
  refine k_calli (pc := 2) B (k_runVi (rest := []) (C := RX8) B (c_X8_isPerson l dC dI cI cZ cQ cW z_o z_weight_a z_wants_a z_wantsMany_a z_st_a z_was_a z_images_a z_isKept_a z_told_a z_text_a z_saidWeight_a z_saidNights_a z_saidWants_a z_saidMany_a z_now_a z_gave_a z_at_a z_way_a z_bestWay_a z_made_a z_people z_known z_toldMany z_trace z_texted z_cursor z_start z_token z_number z_isWrong z_items z_saidPeople z_saidLaw z_ringed z_lumps x1 N _ res h) E0_st (fun _ _ _ => trivial) q_c_X8_isPerson q_m_X8_168 q_i_X8_isPerson q_s_X8_isPerson q_n_X8 hd_X8_isPerson ⟨rfl, rfl⟩ ⟨Nat.le_of_ble_eq_true rfl, Nat.le_of_ble_eq_true rfl⟩ hW [0] rfl (by decide +kernel) (q0 := 0) (ci := 8) rfl rfl rfl hl.1 rfl (Nat.le_of_ble_eq_true rfl) (tb_at tk_X8_gives 2 rfl) ⟨Nat.zero_le _, Nat.zero_le _⟩) hW hS [0] rfl [z_o] rfl (fun _ => rfl) [some 0, none, none] (by decide +kernel) (fun _ => (w_X8_gives cI cZ cQ cW z_o z_weight_a z_wants_a z_wantsMany_a z_st_a z_was_a z_images_a z_isKept_a z_told_a z_text_a z_saidWeight_a z_saidNights_a z_saidWants_a z_saidMany_a z_now_a z_gave_a z_at_a z_way_a z_bestWay_a z_made_a z_people z_known z_toldMany z_trace z_texted z_cursor z_start z_token z_number z_isWrong z_items z_saidPeople z_saidLaw z_ringed z_lumps z_st z_was)) (fun _ => rfl) (fun r2 u H locs h hW hS => ?_)
  have hW : PD (dC, dI) A (w_X8_gives cI cZ cQ cW z_o z_weight_a z_wants_a z_wantsMany_a z_st_a z_was_a z_images_a z_isKept_a z_told_a z_text_a z_saidWeight_a z_saidNights_a z_saidWants_a z_saidMany_a z_now_a z_gave_a z_at_a z_way_a z_bestWay_a z_made_a z_people z_known z_toldMany z_trace z_texted z_cursor z_start z_token z_number z_isWrong z_items z_saidPeople z_saidLaw z_ringed z_lumps z_st z_was) H := hW
  refine lv_if_ne (pc := 5) (tgt := 10) hx hb (tb_at tk_X8_gives 3 rfl) (by decide) (fun cc => ?_) (fun cc => ?_)
  · have h := it_f cc h
    refine lv_aload_n (pc := 10) hx hb (tb_at tk_X8_gives 6 rfl) rfl (lv_at hl 0 rfl) ?_
    refine k_calli (pc := 11) B (k_runVi (rest := []) (C := RX8) B (c_X8_able l dC dI cI cZ cQ cW z_o z_weight_a z_wants_a z_wantsMany_a z_st_a z_was_a z_images_a z_isKept_a z_told_a z_text_a z_saidWeight_a z_saidNights_a z_saidWants_a z_saidMany_a z_now_a z_gave_a z_at_a z_way_a z_bestWay_a z_made_a z_people z_known z_toldMany z_trace z_texted z_cursor z_start z_token z_number z_isWrong z_items z_saidPeople z_saidLaw z_ringed z_lumps z_st  N _ res h) E0_st (fun _ _ _ => trivial) q_c_X8_able q_m_X8_171 q_i_X8_able q_s_X8_able q_n_X8 hd_X8_able ⟨rfl, rfl⟩ ⟨Nat.le_of_ble_eq_true rfl, Nat.le_of_ble_eq_true rfl⟩ hW [0, 1] rfl (by decide +kernel) (q0 := 0) (ci := 8) rfl rfl rfl hl.1 rfl (Nat.le_of_ble_eq_true rfl) (tb_at tk_X8_gives 7 rfl) ⟨Nat.zero_le _, Nat.zero_le _⟩) hW hS [0, 1] rfl [z_o, z_st_a] rfl (fun _ => rfl) [some 0, some 1, none] (by decide +kernel) (fun _ => (w_X8_gives cI cZ cQ cW z_o z_weight_a z_wants_a z_wantsMany_a z_st_a z_was_a z_images_a z_isKept_a z_told_a z_text_a z_saidWeight_a z_saidNights_a z_saidWants_a z_saidMany_a z_now_a z_gave_a z_at_a z_way_a z_bestWay_a z_made_a z_people z_known z_toldMany z_trace z_texted z_cursor z_start z_token z_number z_isWrong z_items z_saidPeople z_saidLaw z_ringed z_lumps z_st z_was)) (fun _ => rfl) (fun r11 u H locs h hW hS => ?_)
    have hW : PD (dC, dI) A (w_X8_gives cI cZ cQ cW z_o z_weight_a z_wants_a z_wantsMany_a z_st_a z_was_a z_images_a z_isKept_a z_told_a z_text_a z_saidWeight_a z_saidNights_a z_saidWants_a z_saidMany_a z_now_a z_gave_a z_at_a z_way_a z_bestWay_a z_made_a z_people z_known z_toldMany z_trace z_texted z_cursor z_start z_token z_number z_isWrong z_items z_saidPeople z_saidLaw z_ringed z_lumps z_st z_was) H := hW
    refine lv_iload_n (pc := 14) hx hb (tb_at tk_X8_gives 8 rfl) rfl (lv_at hl 1 rfl) ?_
    refine k_call0 (pc := 15) B (k_runSi (rest := []) (host := "") B (c_X8_has l dC dI cI cZ cQ cW   r11 x1 N _ res h) E0_st (fun _ _ _ => trivial) q_c_X8_has q_m_X8_113 q_t_X8_has q_n_X8 hd_X8_has ⟨rfl, rfl⟩ ⟨Nat.le_of_ble_eq_true rfl, Nat.le_of_ble_eq_true rfl⟩ hW [] rfl (by decide +kernel) rfl hl.1 rfl (Nat.le_of_ble_eq_true rfl) (tb_at tk_X8_gives 9 rfl) ⟨Nat.zero_le _, Nat.zero_le _⟩) hW hS (fun r15 u H locs h hW hS => ?_)
    refine lv_if_eq (pc := 18) (tgt := 35) hx hb (tb_at tk_X8_gives 10 rfl) (by decide) (fun cc => ?_) (fun cc => ?_)
    · have h := it_t cc h
      refine lv_bipush (pc := 35) (v := (-2)) hx hb (tb_at tk_X8_gives 18 rfl) (by decide) ?_
      exact hQ (-2) (z_known, z_st, z_was) _ _ _ 37 rfl h hW hS (tb_at tk_X8_gives 19 rfl)
    · have h := it_f cc h
      refine lv_aload_n (pc := 21) hx hb (tb_at tk_X8_gives 11 rfl) rfl (lv_at hl 0 rfl) ?_
      refine k_get (pc := 22) (v := .ref z_st_a) (T := TX8) B inG8 hW 0 rfl rfl 4 (by decide) q_f_X8_19 rfl rfl (tb_at tk_X8_gives 12 rfl) ?_
      refine lv_bipush (pc := 25) (v := 12) hx hb (tb_at tk_X8_gives 13 rfl) (by decide) ?_
      have ii := ivi_in (ck_l h)
      have h := ck_r h
      refine k_iald (pc := 27) B hW 1 0 rfl rfl ii (tb_at tk_X8_gives 14 rfl) ?_
      refine lv_iload_n (pc := 28) hx hb (tb_at tk_X8_gives 15 rfl) rfl (lv_at hl 1 rfl) ?_
      refine k_call0 (pc := 29) B (k_runSi (rest := []) (host := "") B (c_X8_has l dC dI cI cZ cQ cW   (z_st ((12 : Int32)).toNatClampNeg) x1 N _ res h) E0_st (fun _ _ _ => trivial) q_c_X8_has q_m_X8_113 q_t_X8_has q_n_X8 hd_X8_has ⟨rfl, rfl⟩ ⟨Nat.le_of_ble_eq_true rfl, Nat.le_of_ble_eq_true rfl⟩ hW [] rfl (by decide +kernel) rfl hl.1 rfl (Nat.le_of_ble_eq_true rfl) (tb_at tk_X8_gives 16 rfl) ⟨Nat.zero_le _, Nat.zero_le _⟩) hW hS (fun r29 u H locs h hW hS => ?_)
      refine lv_if_eq (pc := 32) (tgt := 38) hx hb (tb_at tk_X8_gives 17 rfl) (by decide) (fun cc => ?_) (fun cc => ?_)
      · have h := it_t cc h
        refine lv_aload_n (pc := 38) hx hb (tb_at tk_X8_gives 20 rfl) rfl (lv_at hl 0 rfl) ?_
        refine k_callv (pc := 39) B (k_runVv (rest := []) (C := RX8) B (c_X8_remembers l dC dI cI cZ cQ cW z_o z_weight_a z_wants_a z_wantsMany_a z_st_a z_was_a z_images_a z_isKept_a z_told_a z_text_a z_saidWeight_a z_saidNights_a z_saidWants_a z_saidMany_a z_now_a z_gave_a z_at_a z_way_a z_bestWay_a z_made_a z_people z_known z_toldMany z_trace z_texted z_cursor z_start z_token z_number z_isWrong z_items z_saidPeople z_saidLaw z_ringed z_lumps z_was z_st  N _ res h) E0_st (fun _ _ _ => trivial) q_c_X8_remembers q_m_X8_175 q_i_X8_remembers q_s_X8_remembers q_n_X8 hd_X8_remembers ⟨rfl, rfl⟩ ⟨Nat.le_of_ble_eq_true rfl, Nat.le_of_ble_eq_true rfl⟩ hW [0, 2, 1] rfl (by decide +kernel) (q0 := 0) (ci := 8) rfl rfl rfl hl.1 rfl (Nat.le_of_ble_eq_true rfl) (tb_at tk_X8_gives 21 rfl) ⟨Nat.zero_le _, Nat.zero_le _⟩) hW hS [0, 2, 1] rfl [z_o, z_was_a, z_st_a] rfl (fun _ => rfl) [some 0, some 2, some 1] (by decide +kernel) (fun u => (w_X8_gives cI cZ cQ cW z_o z_weight_a z_wants_a z_wantsMany_a z_st_a z_was_a z_images_a z_isKept_a z_told_a z_text_a z_saidWeight_a z_saidNights_a z_saidWants_a z_saidMany_a z_now_a z_gave_a z_at_a z_way_a z_bestWay_a z_made_a z_people u.1 z_toldMany z_trace z_texted z_cursor z_start z_token z_number z_isWrong z_items z_saidPeople z_saidLaw z_ringed z_lumps z_st u.2)) (fun _ => rfl) (fun u H locs h hW hS => ?_)
        obtain ⟨z_known_39, z_was_39⟩ := u
        dsimp only at h
        have hW : PD (dC, dI) A (w_X8_gives cI cZ cQ cW z_o z_weight_a z_wants_a z_wantsMany_a z_st_a z_was_a z_images_a z_isKept_a z_told_a z_text_a z_saidWeight_a z_saidNights_a z_saidWants_a z_saidMany_a z_now_a z_gave_a z_at_a z_way_a z_bestWay_a z_made_a z_people z_known_39 z_toldMany z_trace z_texted z_cursor z_start z_token z_number z_isWrong z_items z_saidPeople z_saidLaw z_ringed z_lumps z_st z_was_39) H := hW
        refine lv_aload_n (pc := 42) hx hb (tb_at tk_X8_gives 22 rfl) rfl (lv_at hl 0 rfl) ?_
        refine k_get (pc := 43) (v := .ref z_st_a) (T := TX8) B inG8 hW 0 rfl rfl 4 (by decide) q_f_X8_19 rfl rfl (tb_at tk_X8_gives 23 rfl) ?_
        refine lv_bipush (pc := 46) (v := 12) hx hb (tb_at tk_X8_gives 24 rfl) (by decide) ?_
        refine lv_dup2_11 (pc := 48) hx hb (tb_at tk_X8_gives 25 rfl) rfl rfl ?_
        have ii := ivi_in (ck_l h)
        have h := ck_r h
        refine k_iald (pc := 49) B hW 1 0 rfl rfl ii (tb_at tk_X8_gives 26 rfl) ?_
        refine lv_iconst (pc := 50) (v := 1) hx hb (tb_at tk_X8_gives 27 rfl) (by decide) ?_
        refine lv_iload_n (pc := 51) hx hb (tb_at tk_X8_gives 28 rfl) rfl (lv_at hl 1 rfl) ?_
        refine lv_ishl (pc := 52) hx hb (tb_at tk_X8_gives 29 rfl) ?_
        refine lv_ior (pc := 53) hx hb (tb_at tk_X8_gives 30 rfl) ?_
        have ii := ivi_in (ck_l h)
        have h := ck_r h
        refine k_iast (pc := 54) B hW hS 1 0 rfl rfl ii (tb_at tk_X8_gives 31 rfl) (w_X8_gives cI cZ cQ cW z_o z_weight_a z_wants_a z_wantsMany_a z_st_a z_was_a z_images_a z_isKept_a z_told_a z_text_a z_saidWeight_a z_saidNights_a z_saidWants_a z_saidMany_a z_now_a z_gave_a z_at_a z_way_a z_bestWay_a z_made_a z_people z_known_39 z_toldMany z_trace z_texted z_cursor z_start z_token z_number z_isWrong z_items z_saidPeople z_saidLaw z_ringed z_lumps (upd z_st ((12 : Int32)).toNatClampNeg ((z_st ((12 : Int32)).toNatClampNeg) ||| ((1 : Int32) <<< (x1 &&& 31)))) z_was_39) rfl (fun H locs hW hS => ?_)
        refine lv_aload_n (pc := 55) hx hb (tb_at tk_X8_gives 32 rfl) rfl (lv_at hl 0 rfl) ?_
        refine k_get (pc := 56) (v := .ref z_st_a) (T := TX8) B inG8 hW 0 rfl rfl 4 (by decide) q_f_X8_19 rfl rfl (tb_at tk_X8_gives 33 rfl) ?_
        refine lv_bipush (pc := 59) (v := 12) hx hb (tb_at tk_X8_gives 34 rfl) (by decide) ?_
        have ii := ivi_in (ck_l h)
        have h := ck_r h
        refine k_iald (pc := 61) B hW 1 0 rfl rfl ii (tb_at tk_X8_gives 35 rfl) ?_
        refine k_call0 (pc := 62) B (k_runSi (rest := []) (host := "") B (c_X8_bits l dC dI cI cZ cQ cW   ((upd z_st ((12 : Int32)).toNatClampNeg ((z_st ((12 : Int32)).toNatClampNeg) ||| ((1 : Int32) <<< (x1 &&& 31)))) ((12 : Int32)).toNatClampNeg) N _ res h) E0_st (fun _ _ _ => trivial) q_c_X8_bits q_m_X8_178 q_t_X8_bits q_n_X8 hd_X8_bits ⟨rfl, rfl⟩ ⟨Nat.le_of_ble_eq_true rfl, Nat.le_of_ble_eq_true rfl⟩ hW [] rfl (by decide +kernel) rfl hl.1 rfl (Nat.le_of_ble_eq_true rfl) (tb_at tk_X8_gives 36 rfl) ⟨Nat.zero_le _, Nat.zero_le _⟩) hW hS (fun r62 u H locs h hW hS => ?_)
        exact hQ r62 (z_known_39, upd z_st ((12 : Int32)).toNatClampNeg ((z_st ((12 : Int32)).toNatClampNeg) ||| ((1 : Int32) <<< (x1 &&& 31))), z_was_39) _ _ _ 65 rfl h hW hS (tb_at tk_X8_gives 37 rfl)
      · have h := it_f cc h
        refine lv_bipush (pc := 35) (v := (-2)) hx hb (tb_at tk_X8_gives 18 rfl) (by decide) ?_
        exact hQ (-2) (z_known, z_st, z_was) _ _ _ 37 rfl h hW hS (tb_at tk_X8_gives 19 rfl)
  · have h := it_t cc h
    refine lv_iconst (pc := 8) (v := (-1)) hx hb (tb_at tk_X8_gives 4 rfl) (by decide) ?_
    exact hQ (-1) (z_known, z_st, z_was) _ _ _ 9 rfl h hW hS (tb_at tk_X8_gives 5 rfl)
def f_X8_takes {ρ : Type} (N : Nat) (z_people : Int32) (z_known : Int32) (z_st : Nat → Int32) (z_was : Nat → Int32) (x1 : Int32) (k : Int32 → Int32 → (Nat → Int32) → (Nat → Int32) → Option ρ) : Option ρ := f_X8_isPerson N z_people x1 (fun r2 => if r2 = 0 then (k (-1) z_known z_st z_was) else (ck (ivi (12 : Int32) 25) (f_X8_has N (z_st ((12 : Int32)).toNatClampNeg) x1 (fun r18 => if r18 = 0 then (k (-2) z_known z_st z_was) else (f_X8_remembers N z_known z_was z_st (fun z_known_28 z_was_28 => ck (ivi (12 : Int32) 25) (ck (ivi (12 : Int32) 25) (ck (ivi (12 : Int32) 25) (f_X8_bits N ((upd z_st ((12 : Int32)).toNatClampNeg ((z_st ((12 : Int32)).toNatClampNeg) &&& (((1 : Int32) <<< (x1 &&& 31)) ^^^ (-1)))) ((12 : Int32)).toNatClampNeg) (fun r53 => k r53 z_known_28 (upd z_st ((12 : Int32)).toNatClampNeg ((z_st ((12 : Int32)).toNatClampNeg) &&& (((1 : Int32) <<< (x1 &&& 31)) ^^^ (-1)))) z_was_28))))))))))
abbrev w_X8_takes (cI cZ cQ cW : ClassId) (z_o : Nat) (z_weight_a : Nat) (z_wants_a : Nat) (z_wantsMany_a : Nat) (z_st_a : Nat) (z_was_a : Nat) (z_images_a : Nat) (z_isKept_a : Nat) (z_told_a : Nat) (z_text_a : Nat) (z_saidWeight_a : Nat) (z_saidNights_a : Nat) (z_saidWants_a : Nat) (z_saidMany_a : Nat) (z_now_a : Nat) (z_gave_a : Nat) (z_at_a : Nat) (z_way_a : Nat) (z_bestWay_a : Nat) (z_made_a : Nat) (z_people : Int32) (z_known : Int32) (z_toldMany : Int32) (z_trace : Int64) (z_texted : Int32) (z_cursor : Int32) (z_start : Int32) (z_token : Int32) (z_number : Int32) (z_isWrong : Int32) (z_items : Int32) (z_saidPeople : Int32) (z_saidLaw : Int32) (z_ringed : Int32) (z_lumps : Int32) (z_st : Nat → Int32) (z_was : Nat → Int32) : va_W := [(z_o, .inr (8, [.int z_people, .ref z_weight_a, .ref z_wants_a, .ref z_wantsMany_a, .ref z_st_a, .ref z_was_a, .int z_known, .ref z_images_a, .ref z_isKept_a, .int z_toldMany, .ref z_told_a, .long z_trace, .ref z_text_a, .int z_texted, .int z_cursor, .int z_start, .int z_token, .int z_number, .int z_isWrong, .int z_items, .int z_saidPeople, .ref z_saidWeight_a, .ref z_saidNights_a, .ref z_saidWants_a, .ref z_saidMany_a, .int z_saidLaw, .ref z_now_a, .ref z_gave_a, .ref z_at_a, .int z_ringed, .int z_lumps, .ref z_way_a, .ref z_bestWay_a, .ref z_made_a])), (z_st_a, .inl (cI, 25, .inl z_st)), (z_was_a, .inl (cI, 250, .inl z_was))]
abbrev rm_X8_takes : Room := { frames := 2, cells := 0, slots := 0, locals := 45 }
set_option maxHeartbeats 4000000 in
set_option maxRecDepth 100000 in
theorem c_X8_takes (l : Launch) (dC : Nat → ClassId) (dI : Nat → Nat → Nat) (cI cZ cQ cW : ClassId) (z_o : Nat) (z_weight_a : Nat) (z_wants_a : Nat) (z_wantsMany_a : Nat) (z_st_a : Nat) (z_was_a : Nat) (z_images_a : Nat) (z_isKept_a : Nat) (z_told_a : Nat) (z_text_a : Nat) (z_saidWeight_a : Nat) (z_saidNights_a : Nat) (z_saidWants_a : Nat) (z_saidMany_a : Nat) (z_now_a : Nat) (z_gave_a : Nat) (z_at_a : Nat) (z_way_a : Nat) (z_bestWay_a : Nat) (z_made_a : Nat) (z_people : Int32) (z_known : Int32) (z_toldMany : Int32) (z_trace : Int64) (z_texted : Int32) (z_cursor : Int32) (z_start : Int32) (z_token : Int32) (z_number : Int32) (z_isWrong : Int32) (z_items : Int32) (z_saidPeople : Int32) (z_saidLaw : Int32) (z_ringed : Int32) (z_lumps : Int32) (z_st : Nat → Int32) (z_was : Nat → Int32) (x1 : Int32) {ρ : Type} (N : Nat) (k : Int32 → Int32 → (Nat → Int32) → (Nat → Int32) → Option ρ) (res : ρ) (h : f_X8_takes N z_people z_known z_st z_was x1 k = some res) : Ci l yX8_takes (WS yX8_takes cX8_takes 2 (some .int)) rm_X8_takes (dC, dI) (tysG cI cZ cQ cW) E0 [.ref z_o, .int x1] (w_X8_takes cI cZ cQ cW z_o z_weight_a z_wants_a z_wantsMany_a z_st_a z_was_a z_images_a z_isKept_a z_told_a z_text_a z_saidWeight_a z_saidNights_a z_saidWants_a z_saidMany_a z_now_a z_gave_a z_at_a z_way_a z_bestWay_a z_made_a z_people z_known z_toldMany z_trace z_texted z_cursor z_start z_token z_number z_isWrong z_items z_saidPeople z_saidLaw z_ringed z_lumps z_st z_was) (fun (u : Int32 × (Nat → Int32) × (Nat → Int32)) => (w_X8_takes cI cZ cQ cW z_o z_weight_a z_wants_a z_wantsMany_a z_st_a z_was_a z_images_a z_isKept_a z_told_a z_text_a z_saidWeight_a z_saidNights_a z_saidWants_a z_saidMany_a z_now_a z_gave_a z_at_a z_way_a z_bestWay_a z_made_a z_people u.1 z_toldMany z_trace z_texted z_cursor z_start z_token z_number z_isWrong z_items z_saidPeople z_saidLaw z_ringed z_lumps u.2.1 u.2.2)) (fun r u => k r u.1 u.2.1 u.2.2 = some res) := by
  refine Ci.of (cc := cX8_takes) (n := 2) (by decide +kernel) (Nat.le_of_ble_eq_true rfl) ?_
  intro p e s m args below meth c A ls Q B hW hE hS hl hQ
  have hx := B.1
  have hb := B.2.1
  have hl : lv_has ls 2 [(0, .ref z_o), (1, .int x1)] := hl
  unfold f_X8_takes at h
  refine lv_aload_n (pc := 0) hx hb (tb_at tk_X8_takes 0 rfl) rfl (lv_at hl 0 rfl) ?_
  refine lv_iload_n (pc := 1) hx hb (tb_at tk_X8_takes 1 rfl) rfl (lv_at hl 1 rfl) ?_
  refine k_calli (pc := 2) B (k_runVi (rest := []) (C := RX8) B (c_X8_isPerson l dC dI cI cZ cQ cW z_o z_weight_a z_wants_a z_wantsMany_a z_st_a z_was_a z_images_a z_isKept_a z_told_a z_text_a z_saidWeight_a z_saidNights_a z_saidWants_a z_saidMany_a z_now_a z_gave_a z_at_a z_way_a z_bestWay_a z_made_a z_people z_known z_toldMany z_trace z_texted z_cursor z_start z_token z_number z_isWrong z_items z_saidPeople z_saidLaw z_ringed z_lumps x1 N _ res h) E0_st (fun _ _ _ => trivial) q_c_X8_isPerson q_m_X8_168 q_i_X8_isPerson q_s_X8_isPerson q_n_X8 hd_X8_isPerson ⟨rfl, rfl⟩ ⟨Nat.le_of_ble_eq_true rfl, Nat.le_of_ble_eq_true rfl⟩ hW [0] rfl (by decide +kernel) (q0 := 0) (ci := 8) rfl rfl rfl hl.1 rfl (Nat.le_of_ble_eq_true rfl) (tb_at tk_X8_takes 2 rfl) ⟨Nat.zero_le _, Nat.zero_le _⟩) hW hS [0] rfl [z_o] rfl (fun _ => rfl) [some 0, none, none] (by decide +kernel) (fun _ => (w_X8_takes cI cZ cQ cW z_o z_weight_a z_wants_a z_wantsMany_a z_st_a z_was_a z_images_a z_isKept_a z_told_a z_text_a z_saidWeight_a z_saidNights_a z_saidWants_a z_saidMany_a z_now_a z_gave_a z_at_a z_way_a z_bestWay_a z_made_a z_people z_known z_toldMany z_trace z_texted z_cursor z_start z_token z_number z_isWrong z_items z_saidPeople z_saidLaw z_ringed z_lumps z_st z_was)) (fun _ => rfl) (fun r2 u H locs h hW hS => ?_)
  have hW : PD (dC, dI) A (w_X8_takes cI cZ cQ cW z_o z_weight_a z_wants_a z_wantsMany_a z_st_a z_was_a z_images_a z_isKept_a z_told_a z_text_a z_saidWeight_a z_saidNights_a z_saidWants_a z_saidMany_a z_now_a z_gave_a z_at_a z_way_a z_bestWay_a z_made_a z_people z_known z_toldMany z_trace z_texted z_cursor z_start z_token z_number z_isWrong z_items z_saidPeople z_saidLaw z_ringed z_lumps z_st z_was) H := hW
  refine lv_if_ne (pc := 5) (tgt := 10) hx hb (tb_at tk_X8_takes 3 rfl) (by decide) (fun cc => ?_) (fun cc => ?_)
  · have h := it_f cc h
    refine lv_aload_n (pc := 10) hx hb (tb_at tk_X8_takes 6 rfl) rfl (lv_at hl 0 rfl) ?_
    refine k_get (pc := 11) (v := .ref z_st_a) (T := TX8) B inG8 hW 0 rfl rfl 4 (by decide) q_f_X8_19 rfl rfl (tb_at tk_X8_takes 7 rfl) ?_
    refine lv_bipush (pc := 14) (v := 12) hx hb (tb_at tk_X8_takes 8 rfl) (by decide) ?_
    have ii := ivi_in (ck_l h)
    have h := ck_r h
    refine k_iald (pc := 16) B hW 1 0 rfl rfl ii (tb_at tk_X8_takes 9 rfl) ?_
    refine lv_iload_n (pc := 17) hx hb (tb_at tk_X8_takes 10 rfl) rfl (lv_at hl 1 rfl) ?_
    refine k_call0 (pc := 18) B (k_runSi (rest := []) (host := "") B (c_X8_has l dC dI cI cZ cQ cW   (z_st ((12 : Int32)).toNatClampNeg) x1 N _ res h) E0_st (fun _ _ _ => trivial) q_c_X8_has q_m_X8_113 q_t_X8_has q_n_X8 hd_X8_has ⟨rfl, rfl⟩ ⟨Nat.le_of_ble_eq_true rfl, Nat.le_of_ble_eq_true rfl⟩ hW [] rfl (by decide +kernel) rfl hl.1 rfl (Nat.le_of_ble_eq_true rfl) (tb_at tk_X8_takes 11 rfl) ⟨Nat.zero_le _, Nat.zero_le _⟩) hW hS (fun r18 u H locs h hW hS => ?_)
    refine lv_if_ne (pc := 21) (tgt := 27) hx hb (tb_at tk_X8_takes 12 rfl) (by decide) (fun cc => ?_) (fun cc => ?_)
    · have h := it_f cc h
      refine lv_aload_n (pc := 27) hx hb (tb_at tk_X8_takes 15 rfl) rfl (lv_at hl 0 rfl) ?_
      refine k_callv (pc := 28) B (k_runVv (rest := []) (C := RX8) B (c_X8_remembers l dC dI cI cZ cQ cW z_o z_weight_a z_wants_a z_wantsMany_a z_st_a z_was_a z_images_a z_isKept_a z_told_a z_text_a z_saidWeight_a z_saidNights_a z_saidWants_a z_saidMany_a z_now_a z_gave_a z_at_a z_way_a z_bestWay_a z_made_a z_people z_known z_toldMany z_trace z_texted z_cursor z_start z_token z_number z_isWrong z_items z_saidPeople z_saidLaw z_ringed z_lumps z_was z_st  N _ res h) E0_st (fun _ _ _ => trivial) q_c_X8_remembers q_m_X8_175 q_i_X8_remembers q_s_X8_remembers q_n_X8 hd_X8_remembers ⟨rfl, rfl⟩ ⟨Nat.le_of_ble_eq_true rfl, Nat.le_of_ble_eq_true rfl⟩ hW [0, 2, 1] rfl (by decide +kernel) (q0 := 0) (ci := 8) rfl rfl rfl hl.1 rfl (Nat.le_of_ble_eq_true rfl) (tb_at tk_X8_takes 16 rfl) ⟨Nat.zero_le _, Nat.zero_le _⟩) hW hS [0, 2, 1] rfl [z_o, z_was_a, z_st_a] rfl (fun _ => rfl) [some 0, some 2, some 1] (by decide +kernel) (fun u => (w_X8_takes cI cZ cQ cW z_o z_weight_a z_wants_a z_wantsMany_a z_st_a z_was_a z_images_a z_isKept_a z_told_a z_text_a z_saidWeight_a z_saidNights_a z_saidWants_a z_saidMany_a z_now_a z_gave_a z_at_a z_way_a z_bestWay_a z_made_a z_people u.1 z_toldMany z_trace z_texted z_cursor z_start z_token z_number z_isWrong z_items z_saidPeople z_saidLaw z_ringed z_lumps z_st u.2)) (fun _ => rfl) (fun u H locs h hW hS => ?_)
      obtain ⟨z_known_28, z_was_28⟩ := u
      dsimp only at h
      have hW : PD (dC, dI) A (w_X8_takes cI cZ cQ cW z_o z_weight_a z_wants_a z_wantsMany_a z_st_a z_was_a z_images_a z_isKept_a z_told_a z_text_a z_saidWeight_a z_saidNights_a z_saidWants_a z_saidMany_a z_now_a z_gave_a z_at_a z_way_a z_bestWay_a z_made_a z_people z_known_28 z_toldMany z_trace z_texted z_cursor z_start z_token z_number z_isWrong z_items z_saidPeople z_saidLaw z_ringed z_lumps z_st z_was_28) H := hW
      refine lv_aload_n (pc := 31) hx hb (tb_at tk_X8_takes 17 rfl) rfl (lv_at hl 0 rfl) ?_
      refine k_get (pc := 32) (v := .ref z_st_a) (T := TX8) B inG8 hW 0 rfl rfl 4 (by decide) q_f_X8_19 rfl rfl (tb_at tk_X8_takes 18 rfl) ?_
      refine lv_bipush (pc := 35) (v := 12) hx hb (tb_at tk_X8_takes 19 rfl) (by decide) ?_
      refine lv_dup2_11 (pc := 37) hx hb (tb_at tk_X8_takes 20 rfl) rfl rfl ?_
      have ii := ivi_in (ck_l h)
      have h := ck_r h
      refine k_iald (pc := 38) B hW 1 0 rfl rfl ii (tb_at tk_X8_takes 21 rfl) ?_
      refine lv_iconst (pc := 39) (v := 1) hx hb (tb_at tk_X8_takes 22 rfl) (by decide) ?_
      refine lv_iload_n (pc := 40) hx hb (tb_at tk_X8_takes 23 rfl) rfl (lv_at hl 1 rfl) ?_
      refine lv_ishl (pc := 41) hx hb (tb_at tk_X8_takes 24 rfl) ?_
      refine lv_iconst (pc := 42) (v := (-1)) hx hb (tb_at tk_X8_takes 25 rfl) (by decide) ?_
      refine lv_ixor (pc := 43) hx hb (tb_at tk_X8_takes 26 rfl) ?_
      refine lv_iand (pc := 44) hx hb (tb_at tk_X8_takes 27 rfl) ?_
      have ii := ivi_in (ck_l h)
      have h := ck_r h
      refine k_iast (pc := 45) B hW hS 1 0 rfl rfl ii (tb_at tk_X8_takes 28 rfl) (w_X8_takes cI cZ cQ cW z_o z_weight_a z_wants_a z_wantsMany_a z_st_a z_was_a z_images_a z_isKept_a z_told_a z_text_a z_saidWeight_a z_saidNights_a z_saidWants_a z_saidMany_a z_now_a z_gave_a z_at_a z_way_a z_bestWay_a z_made_a z_people z_known_28 z_toldMany z_trace z_texted z_cursor z_start z_token z_number z_isWrong z_items z_saidPeople z_saidLaw z_ringed z_lumps (upd z_st ((12 : Int32)).toNatClampNeg ((z_st ((12 : Int32)).toNatClampNeg) &&& (((1 : Int32) <<< (x1 &&& 31)) ^^^ (-1)))) z_was_28) rfl (fun H locs hW hS => ?_)
      refine lv_aload_n (pc := 46) hx hb (tb_at tk_X8_takes 29 rfl) rfl (lv_at hl 0 rfl) ?_
      refine k_get (pc := 47) (v := .ref z_st_a) (T := TX8) B inG8 hW 0 rfl rfl 4 (by decide) q_f_X8_19 rfl rfl (tb_at tk_X8_takes 30 rfl) ?_
      refine lv_bipush (pc := 50) (v := 12) hx hb (tb_at tk_X8_takes 31 rfl) (by decide) ?_
      have ii := ivi_in (ck_l h)
      have h := ck_r h
      refine k_iald (pc := 52) B hW 1 0 rfl rfl ii (tb_at tk_X8_takes 32 rfl) ?_
      refine k_call0 (pc := 53) B (k_runSi (rest := []) (host := "") B (c_X8_bits l dC dI cI cZ cQ cW   ((upd z_st ((12 : Int32)).toNatClampNeg ((z_st ((12 : Int32)).toNatClampNeg) &&& (((1 : Int32) <<< (x1 &&& 31)) ^^^ (-1)))) ((12 : Int32)).toNatClampNeg) N _ res h) E0_st (fun _ _ _ => trivial) q_c_X8_bits q_m_X8_178 q_t_X8_bits q_n_X8 hd_X8_bits ⟨rfl, rfl⟩ ⟨Nat.le_of_ble_eq_true rfl, Nat.le_of_ble_eq_true rfl⟩ hW [] rfl (by decide +kernel) rfl hl.1 rfl (Nat.le_of_ble_eq_true rfl) (tb_at tk_X8_takes 33 rfl) ⟨Nat.zero_le _, Nat.zero_le _⟩) hW hS (fun r53 u H locs h hW hS => ?_)
      exact hQ r53 (z_known_28, upd z_st ((12 : Int32)).toNatClampNeg ((z_st ((12 : Int32)).toNatClampNeg) &&& (((1 : Int32) <<< (x1 &&& 31)) ^^^ (-1))), z_was_28) _ _ _ 56 rfl h hW hS (tb_at tk_X8_takes 34 rfl)
    · have h := it_t cc h
      refine lv_bipush (pc := 24) (v := (-2)) hx hb (tb_at tk_X8_takes 13 rfl) (by decide) ?_
      exact hQ (-2) (z_known, z_st, z_was) _ _ _ 26 rfl h hW hS (tb_at tk_X8_takes 14 rfl)
  · have h := it_t cc h
    refine lv_iconst (pc := 8) (v := (-1)) hx hb (tb_at tk_X8_takes 4 rfl) (by decide) ?_
    exact hQ (-1) (z_known, z_st, z_was) _ _ _ 9 rfl h hW hS (tb_at tk_X8_takes 5 rfl)
def f_X8_night_e81 {ρ : Type} (z_st : Nat → Int32) (z_known_17 : Int32) (z_was_17 : Nat → Int32) (z_ringed_39 : Int32) (z_lumps_39 : Int32) (z_gave_39 : Nat → Int32) (z_at_39 : Nat → Int32) (k : Int32 → Int32 → Int32 → Int32 → (Nat → Int32) → (Nat → Int32) → (Nat → Int32) → (Nat → Int32) → (Nat → Int32) → Option ρ) (N : Nat) (z_now_e81 : Nat → Int32) : Option ρ := ck (ivi (12 : Int32) 25) (ck (ivi (23 : Int32) 25) (ck (ivi (23 : Int32) 25) (f_X8_copy N (upd (upd z_now_e81 ((12 : Int32)).toNatClampNeg 0) ((23 : Int32)).toNatClampNeg (((upd z_now_e81 ((12 : Int32)).toNatClampNeg 0) ((23 : Int32)).toNatClampNeg) + 1)) z_st 25 25 0 0 (fun z_st_110 => f_X8_bits N z_ringed_39 (fun r117 => k r117 z_known_17 z_ringed_39 z_lumps_39 z_st_110 z_was_17 (upd (upd z_now_e81 ((12 : Int32)).toNatClampNeg 0) ((23 : Int32)).toNatClampNeg (((upd z_now_e81 ((12 : Int32)).toNatClampNeg 0) ((23 : Int32)).toNatClampNeg) + 1)) z_gave_39 z_at_39)))))
def f_X8_night_l44 {ρ : Type} (z_st : Nat → Int32) (z_people : Int32) (k81 : (Nat → Int32) → Option ρ) : Nat → Int32 → (Nat → Int32) → Option ρ
  | 0, _, _ => none
  | n44 + 1, y1_l44, z_now_l44 => if z_people ≤ y1_l44 then (k81 z_now_l44) else (ck (ivi ((6 : Int32) + y1_l44) 25) (ck (ivi (12 : Int32) 25) (ck (ivi ((6 : Int32) + y1_l44) 25) ((f_X8_night_l44 z_st z_people k81 n44) (y1_l44 + 1) (upd z_now_l44 ((6 : Int32) + y1_l44).toNatClampNeg ((z_now_l44 ((6 : Int32) + y1_l44).toNatClampNeg) - (((z_st ((12 : Int32)).toNatClampNeg) >>> (y1_l44 &&& 31)) &&& 1)))))))
def f_X8_night {ρ : Type} (N : Nat) (z_people : Int32) (z_known : Int32) (z_ringed : Int32) (z_lumps : Int32) (z_st : Nat → Int32) (z_was : Nat → Int32) (z_now : Nat → Int32) (z_gave : Nat → Int32) (z_wantsMany : Nat → Int32) (z_wants : Nat → Int32) (z_weight : Nat → Int32) (z_at : Nat → Int32) (k : Int32 → Int32 → Int32 → Int32 → (Nat → Int32) → (Nat → Int32) → (Nat → Int32) → (Nat → Int32) → (Nat → Int32) → Option ρ) : Option ρ := ck (ivi (23 : Int32) 25) (if (z_st ((23 : Int32)).toNatClampNeg) = 999 then (k (-2) z_known z_ringed z_lumps z_st z_was z_now z_gave z_at) else (f_X8_remembers N z_known z_was z_st (fun z_known_17 z_was_17 => f_X8_asItIs N z_st z_now (fun z_now_21 => ck (ivi (12 : Int32) 25) (ck (ivi (24 : Int32) 25) (f_X8_goesBy N z_people z_now_21 z_gave z_wantsMany z_wants z_weight z_at (z_st ((12 : Int32)).toNatClampNeg) (z_st ((24 : Int32)).toNatClampNeg) (fun z_ringed_39 z_lumps_39 z_now_39 z_gave_39 z_at_39 => f_X8_night_l44 z_st z_people (fun z_now_e81 => f_X8_night_e81 z_st z_known_17 z_was_17 z_ringed_39 z_lumps_39 z_gave_39 z_at_39 k N z_now_e81) N 0 z_now_39)))))))
abbrev w_X8_night (cI cZ cQ cW : ClassId) (z_o : Nat) (z_weight_a : Nat) (z_wants_a : Nat) (z_wantsMany_a : Nat) (z_st_a : Nat) (z_was_a : Nat) (z_images_a : Nat) (z_isKept_a : Nat) (z_told_a : Nat) (z_text_a : Nat) (z_saidWeight_a : Nat) (z_saidNights_a : Nat) (z_saidWants_a : Nat) (z_saidMany_a : Nat) (z_now_a : Nat) (z_gave_a : Nat) (z_at_a : Nat) (z_way_a : Nat) (z_bestWay_a : Nat) (z_made_a : Nat) (z_people : Int32) (z_known : Int32) (z_toldMany : Int32) (z_trace : Int64) (z_texted : Int32) (z_cursor : Int32) (z_start : Int32) (z_token : Int32) (z_number : Int32) (z_isWrong : Int32) (z_items : Int32) (z_saidPeople : Int32) (z_saidLaw : Int32) (z_ringed : Int32) (z_lumps : Int32) (z_st : Nat → Int32) (z_was : Nat → Int32) (z_now : Nat → Int32) (z_gave : Nat → Int32) (z_wantsMany : Nat → Int32) (z_wants : Nat → Int32) (z_weight : Nat → Int32) (z_at : Nat → Int32) : va_W := [(z_o, .inr (8, [.int z_people, .ref z_weight_a, .ref z_wants_a, .ref z_wantsMany_a, .ref z_st_a, .ref z_was_a, .int z_known, .ref z_images_a, .ref z_isKept_a, .int z_toldMany, .ref z_told_a, .long z_trace, .ref z_text_a, .int z_texted, .int z_cursor, .int z_start, .int z_token, .int z_number, .int z_isWrong, .int z_items, .int z_saidPeople, .ref z_saidWeight_a, .ref z_saidNights_a, .ref z_saidWants_a, .ref z_saidMany_a, .int z_saidLaw, .ref z_now_a, .ref z_gave_a, .ref z_at_a, .int z_ringed, .int z_lumps, .ref z_way_a, .ref z_bestWay_a, .ref z_made_a])), (z_st_a, .inl (cI, 25, .inl z_st)), (z_was_a, .inl (cI, 250, .inl z_was)), (z_now_a, .inl (cI, 25, .inl z_now)), (z_gave_a, .inl (cI, 6, .inl z_gave)), (z_wantsMany_a, .inl (cI, 6, .inl z_wantsMany)), (z_wants_a, .inl (cI, 24, .inl z_wants)), (z_weight_a, .inl (cI, 6, .inl z_weight)), (z_at_a, .inl (cI, 6, .inl z_at))]
abbrev rm_X8_night : Room := { frames := 4, cells := 0, slots := 0, locals := 101 }
set_option maxHeartbeats 4000000 in
set_option maxRecDepth 100000 in
theorem c_X8_night (l : Launch) (dC : Nat → ClassId) (dI : Nat → Nat → Nat) (cI cZ cQ cW : ClassId) (z_o : Nat) (z_weight_a : Nat) (z_wants_a : Nat) (z_wantsMany_a : Nat) (z_st_a : Nat) (z_was_a : Nat) (z_images_a : Nat) (z_isKept_a : Nat) (z_told_a : Nat) (z_text_a : Nat) (z_saidWeight_a : Nat) (z_saidNights_a : Nat) (z_saidWants_a : Nat) (z_saidMany_a : Nat) (z_now_a : Nat) (z_gave_a : Nat) (z_at_a : Nat) (z_way_a : Nat) (z_bestWay_a : Nat) (z_made_a : Nat) (z_people : Int32) (z_known : Int32) (z_toldMany : Int32) (z_trace : Int64) (z_texted : Int32) (z_cursor : Int32) (z_start : Int32) (z_token : Int32) (z_number : Int32) (z_isWrong : Int32) (z_items : Int32) (z_saidPeople : Int32) (z_saidLaw : Int32) (z_ringed : Int32) (z_lumps : Int32) (z_st : Nat → Int32) (z_was : Nat → Int32) (z_now : Nat → Int32) (z_gave : Nat → Int32) (z_wantsMany : Nat → Int32) (z_wants : Nat → Int32) (z_weight : Nat → Int32) (z_at : Nat → Int32) {ρ : Type} (N : Nat) (k : Int32 → Int32 → Int32 → Int32 → (Nat → Int32) → (Nat → Int32) → (Nat → Int32) → (Nat → Int32) → (Nat → Int32) → Option ρ) (res : ρ) (h : f_X8_night N z_people z_known z_ringed z_lumps z_st z_was z_now z_gave z_wantsMany z_wants z_weight z_at k = some res) : Ci l yX8_night (WS yX8_night cX8_night 2 (some .int)) rm_X8_night (dC, dI) (tysG cI cZ cQ cW) E0 [.ref z_o] (w_X8_night cI cZ cQ cW z_o z_weight_a z_wants_a z_wantsMany_a z_st_a z_was_a z_images_a z_isKept_a z_told_a z_text_a z_saidWeight_a z_saidNights_a z_saidWants_a z_saidMany_a z_now_a z_gave_a z_at_a z_way_a z_bestWay_a z_made_a z_people z_known z_toldMany z_trace z_texted z_cursor z_start z_token z_number z_isWrong z_items z_saidPeople z_saidLaw z_ringed z_lumps z_st z_was z_now z_gave z_wantsMany z_wants z_weight z_at) (fun (u : Int32 × Int32 × Int32 × (Nat → Int32) × (Nat → Int32) × (Nat → Int32) × (Nat → Int32) × (Nat → Int32)) => (w_X8_night cI cZ cQ cW z_o z_weight_a z_wants_a z_wantsMany_a z_st_a z_was_a z_images_a z_isKept_a z_told_a z_text_a z_saidWeight_a z_saidNights_a z_saidWants_a z_saidMany_a z_now_a z_gave_a z_at_a z_way_a z_bestWay_a z_made_a z_people u.1 z_toldMany z_trace z_texted z_cursor z_start z_token z_number z_isWrong z_items z_saidPeople z_saidLaw u.2.1 u.2.2.1 u.2.2.2.1 u.2.2.2.2.1 u.2.2.2.2.2.1 u.2.2.2.2.2.2.1 z_wantsMany z_wants z_weight u.2.2.2.2.2.2.2)) (fun r u => k r u.1 u.2.1 u.2.2.1 u.2.2.2.1 u.2.2.2.2.1 u.2.2.2.2.2.1 u.2.2.2.2.2.2.1 u.2.2.2.2.2.2.2 = some res) := by
  refine Ci.of (cc := cX8_night) (n := 2) (by decide +kernel) (Nat.le_of_ble_eq_true rfl) ?_
  intro p e s m args below meth c A ls Q B hW hE hS hl hQ
  have hx := B.1
  have hb := B.2.1
  have hl : lv_has ls 2 [(0, .ref z_o)] := hl
  unfold f_X8_night at h
  refine lv_aload_n (pc := 0) hx hb (tb_at tk_X8_night 0 rfl) rfl (lv_at hl 0 rfl) ?_
  refine k_get (pc := 1) (v := .ref z_st_a) (T := TX8) B inG8 hW 0 rfl rfl 4 (by decide) q_f_X8_19 rfl rfl (tb_at tk_X8_night 1 rfl) ?_
  refine lv_bipush (pc := 4) (v := 23) hx hb (tb_at tk_X8_night 2 rfl) (by decide) ?_
  have ii := ivi_in (ck_l h)
  have h := ck_r h
  refine k_iald (pc := 6) B hW 1 0 rfl rfl ii (tb_at tk_X8_night 3 rfl) ?_
  refine lv_sipush (pc := 7) (v := 999) hx hb (tb_at tk_X8_night 4 rfl) (by decide) ?_
  refine lv_icmp_ne (pc := 10) (tgt := 16) hx hb (tb_at tk_X8_night 5 rfl) (by decide) (fun cc => ?_) (fun cc => ?_)
  · have h := it_f cc h
    refine lv_aload_n (pc := 16) hx hb (tb_at tk_X8_night 8 rfl) rfl (lv_at hl 0 rfl) ?_
    refine k_callv (pc := 17) B (k_runVv (rest := []) (C := RX8) B (c_X8_remembers l dC dI cI cZ cQ cW z_o z_weight_a z_wants_a z_wantsMany_a z_st_a z_was_a z_images_a z_isKept_a z_told_a z_text_a z_saidWeight_a z_saidNights_a z_saidWants_a z_saidMany_a z_now_a z_gave_a z_at_a z_way_a z_bestWay_a z_made_a z_people z_known z_toldMany z_trace z_texted z_cursor z_start z_token z_number z_isWrong z_items z_saidPeople z_saidLaw z_ringed z_lumps z_was z_st  N _ res h) E0_st (fun _ _ _ => trivial) q_c_X8_remembers q_m_X8_175 q_i_X8_remembers q_s_X8_remembers q_n_X8 hd_X8_remembers ⟨rfl, rfl⟩ ⟨Nat.le_of_ble_eq_true rfl, Nat.le_of_ble_eq_true rfl⟩ hW [0, 2, 1] rfl (by decide +kernel) (q0 := 0) (ci := 8) rfl rfl rfl hl.1 rfl (Nat.le_of_ble_eq_true rfl) (tb_at tk_X8_night 9 rfl) ⟨Nat.zero_le _, Nat.zero_le _⟩) hW hS [0, 2, 1] rfl [z_o, z_was_a, z_st_a] rfl (fun _ => rfl) [some 0, some 2, some 1, none, none, none, none, none, none] (by decide +kernel) (fun u => (w_X8_night cI cZ cQ cW z_o z_weight_a z_wants_a z_wantsMany_a z_st_a z_was_a z_images_a z_isKept_a z_told_a z_text_a z_saidWeight_a z_saidNights_a z_saidWants_a z_saidMany_a z_now_a z_gave_a z_at_a z_way_a z_bestWay_a z_made_a z_people u.1 z_toldMany z_trace z_texted z_cursor z_start z_token z_number z_isWrong z_items z_saidPeople z_saidLaw z_ringed z_lumps z_st u.2 z_now z_gave z_wantsMany z_wants z_weight z_at)) (fun _ => rfl) (fun u H locs h hW hS => ?_)
    obtain ⟨z_known_17, z_was_17⟩ := u
    dsimp only at h
    have hW : PD (dC, dI) A (w_X8_night cI cZ cQ cW z_o z_weight_a z_wants_a z_wantsMany_a z_st_a z_was_a z_images_a z_isKept_a z_told_a z_text_a z_saidWeight_a z_saidNights_a z_saidWants_a z_saidMany_a z_now_a z_gave_a z_at_a z_way_a z_bestWay_a z_made_a z_people z_known_17 z_toldMany z_trace z_texted z_cursor z_start z_token z_number z_isWrong z_items z_saidPeople z_saidLaw z_ringed z_lumps z_st z_was_17 z_now z_gave z_wantsMany z_wants z_weight z_at) H := hW
    refine lv_aload_n (pc := 20) hx hb (tb_at tk_X8_night 10 rfl) rfl (lv_at hl 0 rfl) ?_
    refine k_callv (pc := 21) B (k_runVv (rest := []) (C := RX8) B (c_X8_asItIs l dC dI cI cZ cQ cW z_o z_weight_a z_wants_a z_wantsMany_a z_st_a z_was_a z_images_a z_isKept_a z_told_a z_text_a z_saidWeight_a z_saidNights_a z_saidWants_a z_saidMany_a z_now_a z_gave_a z_at_a z_way_a z_bestWay_a z_made_a z_people z_known_17 z_toldMany z_trace z_texted z_cursor z_start z_token z_number z_isWrong z_items z_saidPeople z_saidLaw z_ringed z_lumps z_st z_now  N _ res h) E0_st (fun _ _ _ => trivial) q_c_X8_asItIs q_m_X8_181 q_i_X8_asItIs q_s_X8_asItIs q_n_X8 hd_X8_asItIs ⟨rfl, rfl⟩ ⟨Nat.le_of_ble_eq_true rfl, Nat.le_of_ble_eq_true rfl⟩ hW [0, 1, 3] rfl (by decide +kernel) (q0 := 0) (ci := 8) rfl rfl rfl hl.1 rfl (Nat.le_of_ble_eq_true rfl) (tb_at tk_X8_night 11 rfl) ⟨Nat.zero_le _, Nat.zero_le _⟩) hW hS [0, 1, 3] rfl [z_o, z_st_a, z_now_a] rfl (fun _ => rfl) [some 0, some 1, none, some 2, none, none, none, none, none] (by decide +kernel) (fun u => (w_X8_night cI cZ cQ cW z_o z_weight_a z_wants_a z_wantsMany_a z_st_a z_was_a z_images_a z_isKept_a z_told_a z_text_a z_saidWeight_a z_saidNights_a z_saidWants_a z_saidMany_a z_now_a z_gave_a z_at_a z_way_a z_bestWay_a z_made_a z_people z_known_17 z_toldMany z_trace z_texted z_cursor z_start z_token z_number z_isWrong z_items z_saidPeople z_saidLaw z_ringed z_lumps z_st z_was_17 u z_gave z_wantsMany z_wants z_weight z_at)) (fun _ => rfl) (fun u H locs h hW hS => ?_)
    obtain ⟨z_now_21, rfl⟩ : ∃ z9, z9 = u := ⟨_, rfl⟩
    have hW : PD (dC, dI) A (w_X8_night cI cZ cQ cW z_o z_weight_a z_wants_a z_wantsMany_a z_st_a z_was_a z_images_a z_isKept_a z_told_a z_text_a z_saidWeight_a z_saidNights_a z_saidWants_a z_saidMany_a z_now_a z_gave_a z_at_a z_way_a z_bestWay_a z_made_a z_people z_known_17 z_toldMany z_trace z_texted z_cursor z_start z_token z_number z_isWrong z_items z_saidPeople z_saidLaw z_ringed z_lumps z_st z_was_17 z_now_21 z_gave z_wantsMany z_wants z_weight z_at) H := hW
    refine lv_aload_n (pc := 24) hx hb (tb_at tk_X8_night 12 rfl) rfl (lv_at hl 0 rfl) ?_
    refine lv_aload_n (pc := 25) hx hb (tb_at tk_X8_night 13 rfl) rfl (lv_at hl 0 rfl) ?_
    refine k_get (pc := 26) (v := .ref z_st_a) (T := TX8) B inG8 hW 0 rfl rfl 4 (by decide) q_f_X8_19 rfl rfl (tb_at tk_X8_night 14 rfl) ?_
    refine lv_bipush (pc := 29) (v := 12) hx hb (tb_at tk_X8_night 15 rfl) (by decide) ?_
    have ii := ivi_in (ck_l h)
    have h := ck_r h
    refine k_iald (pc := 31) B hW 1 0 rfl rfl ii (tb_at tk_X8_night 16 rfl) ?_
    refine lv_aload_n (pc := 32) hx hb (tb_at tk_X8_night 17 rfl) rfl (lv_at hl 0 rfl) ?_
    refine k_get (pc := 33) (v := .ref z_st_a) (T := TX8) B inG8 hW 0 rfl rfl 4 (by decide) q_f_X8_19 rfl rfl (tb_at tk_X8_night 18 rfl) ?_
    refine lv_bipush (pc := 36) (v := 24) hx hb (tb_at tk_X8_night 19 rfl) (by decide) ?_
    have ii := ivi_in (ck_l h)
    have h := ck_r h
    refine k_iald (pc := 38) B hW 1 0 rfl rfl ii (tb_at tk_X8_night 20 rfl) ?_
    refine k_callv (pc := 39) B (k_runVv (rest := []) (C := RX8) B (c_X8_goesBy l dC dI cI cZ cQ cW z_o z_weight_a z_wants_a z_wantsMany_a z_st_a z_was_a z_images_a z_isKept_a z_told_a z_text_a z_saidWeight_a z_saidNights_a z_saidWants_a z_saidMany_a z_now_a z_gave_a z_at_a z_way_a z_bestWay_a z_made_a z_people z_known_17 z_toldMany z_trace z_texted z_cursor z_start z_token z_number z_isWrong z_items z_saidPeople z_saidLaw z_ringed z_lumps z_now_21 z_gave z_wantsMany z_wants z_weight z_at (z_st ((12 : Int32)).toNatClampNeg) (z_st ((24 : Int32)).toNatClampNeg) N _ res h) E0_st (fun _ _ _ => trivial) q_c_X8_goesBy q_m_X8_184 q_i_X8_goesBy q_s_X8_goesBy q_n_X8 hd_X8_goesBy ⟨rfl, rfl⟩ ⟨Nat.le_of_ble_eq_true rfl, Nat.le_of_ble_eq_true rfl⟩ hW [0, 3, 4, 5, 6, 7, 8] rfl (by decide +kernel) (q0 := 0) (ci := 8) rfl rfl rfl hl.1 rfl (Nat.le_of_ble_eq_true rfl) (tb_at tk_X8_night 21 rfl) ⟨Nat.zero_le _, Nat.zero_le _⟩) hW hS [0, 3, 4, 5, 6, 7, 8] rfl [z_o, z_now_a, z_gave_a, z_wantsMany_a, z_wants_a, z_weight_a, z_at_a] rfl (fun _ => rfl) [some 0, none, none, some 1, some 2, some 3, some 4, some 5, some 6] (by decide +kernel) (fun u => (w_X8_night cI cZ cQ cW z_o z_weight_a z_wants_a z_wantsMany_a z_st_a z_was_a z_images_a z_isKept_a z_told_a z_text_a z_saidWeight_a z_saidNights_a z_saidWants_a z_saidMany_a z_now_a z_gave_a z_at_a z_way_a z_bestWay_a z_made_a z_people z_known_17 z_toldMany z_trace z_texted z_cursor z_start z_token z_number z_isWrong z_items z_saidPeople z_saidLaw u.1 u.2.1 z_st z_was_17 u.2.2.1 u.2.2.2.1 z_wantsMany z_wants z_weight u.2.2.2.2)) (fun _ => rfl) (fun u H locs h hW hS => ?_)
    obtain ⟨z_ringed_39, z_lumps_39, z_now_39, z_gave_39, z_at_39⟩ := u
    dsimp only at h
    have hW : PD (dC, dI) A (w_X8_night cI cZ cQ cW z_o z_weight_a z_wants_a z_wantsMany_a z_st_a z_was_a z_images_a z_isKept_a z_told_a z_text_a z_saidWeight_a z_saidNights_a z_saidWants_a z_saidMany_a z_now_a z_gave_a z_at_a z_way_a z_bestWay_a z_made_a z_people z_known_17 z_toldMany z_trace z_texted z_cursor z_start z_token z_number z_isWrong z_items z_saidPeople z_saidLaw z_ringed_39 z_lumps_39 z_st z_was_17 z_now_39 z_gave_39 z_wantsMany z_wants z_weight z_at_39) H := hW
    refine lv_iconst (pc := 42) (v := 0) hx hb (tb_at tk_X8_night 22 rfl) (by decide) ?_
    refine lv_istore_n (pc := 43) (lv' := [(1, .int 0), (0, .ref z_o)]) hx hb (tb_at tk_X8_night 23 rfl) rfl hl (by decide) rfl (fun ls hl => ?_)
    have w81 : ∀ (z_now_e81 : Nat → Int32) (H : Heap) (locs : List Loc) (ls : Array Slot), f_X8_night_e81 z_st z_known_17 z_was_17 z_ringed_39 z_lumps_39 z_gave_39 z_at_39 k N z_now_e81 = some res → PD (dC, dI) A (w_X8_night cI cZ cQ cW z_o z_weight_a z_wants_a z_wantsMany_a z_st_a z_was_a z_images_a z_isKept_a z_told_a z_text_a z_saidWeight_a z_saidNights_a z_saidWants_a z_saidMany_a z_now_a z_gave_a z_at_a z_way_a z_bestWay_a z_made_a z_people z_known_17 z_toldMany z_trace z_texted z_cursor z_start z_token z_number z_isWrong z_items z_saidPeople z_saidLaw z_ringed_39 z_lumps_39 z_st z_was_17 z_now_e81 z_gave_39 z_wantsMany z_wants z_weight z_at_39) H → va_S A s.heap H locs → lv_has ls 2 [(0, .ref z_o)] → W p l e rm_X8_night s m args below meth c H locs 0 0 Q (F0 m 81 ls []) := by
      intro z_now_e81 H locs ls h hW hS hl
      unfold f_X8_night_e81 at h
      refine lv_aload_n (pc := 81) hx hb (tb_at tk_X8_night 47 rfl) rfl (lv_at hl 0 rfl) ?_
      refine k_get (pc := 82) (v := .ref z_now_a) (T := TX8) B inG8 hW 0 rfl rfl 26 (by decide) q_f_X8_50 rfl rfl (tb_at tk_X8_night 48 rfl) ?_
      refine lv_bipush (pc := 85) (v := 12) hx hb (tb_at tk_X8_night 49 rfl) (by decide) ?_
      refine lv_iconst (pc := 87) (v := 0) hx hb (tb_at tk_X8_night 50 rfl) (by decide) ?_
      have ii := ivi_in (ck_l h)
      have h := ck_r h
      refine k_iast (pc := 88) B hW hS 3 0 rfl rfl ii (tb_at tk_X8_night 51 rfl) (w_X8_night cI cZ cQ cW z_o z_weight_a z_wants_a z_wantsMany_a z_st_a z_was_a z_images_a z_isKept_a z_told_a z_text_a z_saidWeight_a z_saidNights_a z_saidWants_a z_saidMany_a z_now_a z_gave_a z_at_a z_way_a z_bestWay_a z_made_a z_people z_known_17 z_toldMany z_trace z_texted z_cursor z_start z_token z_number z_isWrong z_items z_saidPeople z_saidLaw z_ringed_39 z_lumps_39 z_st z_was_17 (upd z_now_e81 ((12 : Int32)).toNatClampNeg 0) z_gave_39 z_wantsMany z_wants z_weight z_at_39) rfl (fun H locs hW hS => ?_)
      refine lv_aload_n (pc := 89) hx hb (tb_at tk_X8_night 52 rfl) rfl (lv_at hl 0 rfl) ?_
      refine k_get (pc := 90) (v := .ref z_now_a) (T := TX8) B inG8 hW 0 rfl rfl 26 (by decide) q_f_X8_50 rfl rfl (tb_at tk_X8_night 53 rfl) ?_
      refine lv_bipush (pc := 93) (v := 23) hx hb (tb_at tk_X8_night 54 rfl) (by decide) ?_
      refine lv_dup2_11 (pc := 95) hx hb (tb_at tk_X8_night 55 rfl) rfl rfl ?_
      have ii := ivi_in (ck_l h)
      have h := ck_r h
      refine k_iald (pc := 96) B hW 3 0 rfl rfl ii (tb_at tk_X8_night 56 rfl) ?_
      refine lv_iconst (pc := 97) (v := 1) hx hb (tb_at tk_X8_night 57 rfl) (by decide) ?_
      refine lv_iadd (pc := 98) hx hb (tb_at tk_X8_night 58 rfl) ?_
      have ii := ivi_in (ck_l h)
      have h := ck_r h
      refine k_iast (pc := 99) B hW hS 3 0 rfl rfl ii (tb_at tk_X8_night 59 rfl) (w_X8_night cI cZ cQ cW z_o z_weight_a z_wants_a z_wantsMany_a z_st_a z_was_a z_images_a z_isKept_a z_told_a z_text_a z_saidWeight_a z_saidNights_a z_saidWants_a z_saidMany_a z_now_a z_gave_a z_at_a z_way_a z_bestWay_a z_made_a z_people z_known_17 z_toldMany z_trace z_texted z_cursor z_start z_token z_number z_isWrong z_items z_saidPeople z_saidLaw z_ringed_39 z_lumps_39 z_st z_was_17 (upd (upd z_now_e81 ((12 : Int32)).toNatClampNeg 0) ((23 : Int32)).toNatClampNeg (((upd z_now_e81 ((12 : Int32)).toNatClampNeg 0) ((23 : Int32)).toNatClampNeg) + 1)) z_gave_39 z_wantsMany z_wants z_weight z_at_39) rfl (fun H locs hW hS => ?_)
      refine lv_aload_n (pc := 100) hx hb (tb_at tk_X8_night 60 rfl) rfl (lv_at hl 0 rfl) ?_
      refine k_get (pc := 101) (v := .ref z_st_a) (T := TX8) B inG8 hW 0 rfl rfl 4 (by decide) q_f_X8_19 rfl rfl (tb_at tk_X8_night 61 rfl) ?_
      refine lv_iconst (pc := 104) (v := 0) hx hb (tb_at tk_X8_night 62 rfl) (by decide) ?_
      refine lv_aload_n (pc := 105) hx hb (tb_at tk_X8_night 63 rfl) rfl (lv_at hl 0 rfl) ?_
      refine k_get (pc := 106) (v := .ref z_now_a) (T := TX8) B inG8 hW 0 rfl rfl 26 (by decide) q_f_X8_50 rfl rfl (tb_at tk_X8_night 64 rfl) ?_
      refine lv_iconst (pc := 109) (v := 0) hx hb (tb_at tk_X8_night 65 rfl) (by decide) ?_
      refine k_callv (pc := 110) B (k_runSv (rest := []) (host := "") B (c_X8_copy l dC dI cI cZ cQ cW z_now_a 25 z_st_a 25 (upd (upd z_now_e81 ((12 : Int32)).toNatClampNeg 0) ((23 : Int32)).toNatClampNeg (((upd z_now_e81 ((12 : Int32)).toNatClampNeg 0) ((23 : Int32)).toNatClampNeg) + 1)) z_st 0 0 N _ res h) E0_st (fun _ _ _ => trivial) q_c_X8_copy q_m_X8_141 q_t_X8_copy q_n_X8 hd_X8_copy ⟨rfl, rfl⟩ ⟨Nat.le_of_ble_eq_true rfl, Nat.le_of_ble_eq_true rfl⟩ hW [3, 1] rfl (by decide +kernel) rfl hl.1 rfl (Nat.le_of_ble_eq_true rfl) (tb_at tk_X8_night 66 rfl) ⟨Nat.zero_le _, Nat.zero_le _⟩) hW hS [3, 1] rfl [z_now_a, z_st_a] rfl (fun _ => rfl) [none, some 1, none, some 0, none, none, none, none, none] (by decide +kernel) (fun u => (w_X8_night cI cZ cQ cW z_o z_weight_a z_wants_a z_wantsMany_a z_st_a z_was_a z_images_a z_isKept_a z_told_a z_text_a z_saidWeight_a z_saidNights_a z_saidWants_a z_saidMany_a z_now_a z_gave_a z_at_a z_way_a z_bestWay_a z_made_a z_people z_known_17 z_toldMany z_trace z_texted z_cursor z_start z_token z_number z_isWrong z_items z_saidPeople z_saidLaw z_ringed_39 z_lumps_39 u z_was_17 (upd (upd z_now_e81 ((12 : Int32)).toNatClampNeg 0) ((23 : Int32)).toNatClampNeg (((upd z_now_e81 ((12 : Int32)).toNatClampNeg 0) ((23 : Int32)).toNatClampNeg) + 1)) z_gave_39 z_wantsMany z_wants z_weight z_at_39)) (fun _ => rfl) (fun u H locs h hW hS => ?_)
      obtain ⟨z_st_110, rfl⟩ : ∃ z9, z9 = u := ⟨_, rfl⟩
      have hW : PD (dC, dI) A (w_X8_night cI cZ cQ cW z_o z_weight_a z_wants_a z_wantsMany_a z_st_a z_was_a z_images_a z_isKept_a z_told_a z_text_a z_saidWeight_a z_saidNights_a z_saidWants_a z_saidMany_a z_now_a z_gave_a z_at_a z_way_a z_bestWay_a z_made_a z_people z_known_17 z_toldMany z_trace z_texted z_cursor z_start z_token z_number z_isWrong z_items z_saidPeople z_saidLaw z_ringed_39 z_lumps_39 z_st_110 z_was_17 (upd (upd z_now_e81 ((12 : Int32)).toNatClampNeg 0) ((23 : Int32)).toNatClampNeg (((upd z_now_e81 ((12 : Int32)).toNatClampNeg 0) ((23 : Int32)).toNatClampNeg) + 1)) z_gave_39 z_wantsMany z_wants z_weight z_at_39) H := hW
      refine lv_aload_n (pc := 113) hx hb (tb_at tk_X8_night 67 rfl) rfl (lv_at hl 0 rfl) ?_
      refine k_get (pc := 114) (v := .int z_ringed_39) (T := TX8) B inG8 hW 0 rfl rfl 29 (by decide) q_f_X8_155 rfl rfl (tb_at tk_X8_night 68 rfl) ?_
      refine k_call0 (pc := 117) B (k_runSi (rest := []) (host := "") B (c_X8_bits l dC dI cI cZ cQ cW   z_ringed_39 N _ res h) E0_st (fun _ _ _ => trivial) q_c_X8_bits q_m_X8_178 q_t_X8_bits q_n_X8 hd_X8_bits ⟨rfl, rfl⟩ ⟨Nat.le_of_ble_eq_true rfl, Nat.le_of_ble_eq_true rfl⟩ hW [] rfl (by decide +kernel) rfl hl.1 rfl (Nat.le_of_ble_eq_true rfl) (tb_at tk_X8_night 69 rfl) ⟨Nat.zero_le _, Nat.zero_le _⟩) hW hS (fun r117 u H locs h hW hS => ?_)
      exact hQ r117 (z_known_17, z_ringed_39, z_lumps_39, z_st_110, z_was_17, upd (upd z_now_e81 ((12 : Int32)).toNatClampNeg 0) ((23 : Int32)).toNatClampNeg (((upd z_now_e81 ((12 : Int32)).toNatClampNeg 0) ((23 : Int32)).toNatClampNeg) + 1), z_gave_39, z_at_39) _ _ _ 120 rfl h hW hS (tb_at tk_X8_night 70 rfl)
    have w44 : ∀ (n : Nat), ∀ (y1_l44 : Int32) (z_now_l44 : Nat → Int32) (H : Heap) (locs : List Loc) (ls : Array Slot), f_X8_night_l44 z_st z_people (fun z_now_e81 => f_X8_night_e81 z_st z_known_17 z_was_17 z_ringed_39 z_lumps_39 z_gave_39 z_at_39 k N z_now_e81) n y1_l44 z_now_l44 = some res → PD (dC, dI) A (w_X8_night cI cZ cQ cW z_o z_weight_a z_wants_a z_wantsMany_a z_st_a z_was_a z_images_a z_isKept_a z_told_a z_text_a z_saidWeight_a z_saidNights_a z_saidWants_a z_saidMany_a z_now_a z_gave_a z_at_a z_way_a z_bestWay_a z_made_a z_people z_known_17 z_toldMany z_trace z_texted z_cursor z_start z_token z_number z_isWrong z_items z_saidPeople z_saidLaw z_ringed_39 z_lumps_39 z_st z_was_17 z_now_l44 z_gave_39 z_wantsMany z_wants z_weight z_at_39) H → va_S A s.heap H locs → lv_has ls 2 [(0, .ref z_o), (1, .int y1_l44)] → W p l e rm_X8_night s m args below meth c H locs 0 0 Q (F0 m 44 ls []) := by
      intro n
      induction n with
      | zero => intro y1_l44 z_now_l44 H locs ls h; exact no_n h
      | succ n44 ih44 =>
        intro y1_l44 z_now_l44 H locs ls h hW hS hl
        rw [f_X8_night_l44] at h
        refine lv_iload_n (pc := 44) hx hb (tb_at tk_X8_night 24 rfl) rfl (lv_at hl 1 rfl) ?_
        refine lv_aload_n (pc := 45) hx hb (tb_at tk_X8_night 25 rfl) rfl (lv_at hl 0 rfl) ?_
        refine k_get (pc := 46) (v := .int z_people) (T := TX8) B inG8 hW 0 rfl rfl 0 (by decide) q_f_X8_68 rfl rfl (tb_at tk_X8_night 26 rfl) ?_
        refine lv_icmp_ge (pc := 49) (tgt := 81) hx hb (tb_at tk_X8_night 27 rfl) (by decide) (fun cc => ?_) (fun cc => ?_)
        · have h := it_t cc h
          exact w81 z_now_l44 _ _ _ h hW hS (lv_sub hl [0] rfl)
        · have h := it_f cc h
          refine lv_aload_n (pc := 52) hx hb (tb_at tk_X8_night 28 rfl) rfl (lv_at hl 0 rfl) ?_
          refine k_get (pc := 53) (v := .ref z_now_a) (T := TX8) B inG8 hW 0 rfl rfl 26 (by decide) q_f_X8_50 rfl rfl (tb_at tk_X8_night 29 rfl) ?_
          refine lv_bipush (pc := 56) (v := 6) hx hb (tb_at tk_X8_night 30 rfl) (by decide) ?_
          refine lv_iload_n (pc := 58) hx hb (tb_at tk_X8_night 31 rfl) rfl (lv_at hl 1 rfl) ?_
          refine lv_iadd (pc := 59) hx hb (tb_at tk_X8_night 32 rfl) ?_
          refine lv_dup2_11 (pc := 60) hx hb (tb_at tk_X8_night 33 rfl) rfl rfl ?_
          have ii := ivi_in (ck_l h)
          have h := ck_r h
          refine k_iald (pc := 61) B hW 3 0 rfl rfl ii (tb_at tk_X8_night 34 rfl) ?_
          refine lv_aload_n (pc := 62) hx hb (tb_at tk_X8_night 35 rfl) rfl (lv_at hl 0 rfl) ?_
          refine k_get (pc := 63) (v := .ref z_st_a) (T := TX8) B inG8 hW 0 rfl rfl 4 (by decide) q_f_X8_19 rfl rfl (tb_at tk_X8_night 36 rfl) ?_
          refine lv_bipush (pc := 66) (v := 12) hx hb (tb_at tk_X8_night 37 rfl) (by decide) ?_
          have ii := ivi_in (ck_l h)
          have h := ck_r h
          refine k_iald (pc := 68) B hW 1 0 rfl rfl ii (tb_at tk_X8_night 38 rfl) ?_
          refine lv_iload_n (pc := 69) hx hb (tb_at tk_X8_night 39 rfl) rfl (lv_at hl 1 rfl) ?_
          refine lv_ishr (pc := 70) hx hb (tb_at tk_X8_night 40 rfl) ?_
          refine lv_iconst (pc := 71) (v := 1) hx hb (tb_at tk_X8_night 41 rfl) (by decide) ?_
          refine lv_iand (pc := 72) hx hb (tb_at tk_X8_night 42 rfl) ?_
          refine lv_isub (pc := 73) hx hb (tb_at tk_X8_night 43 rfl) ?_
          have ii := ivi_in (ck_l h)
          have h := ck_r h
          refine k_iast (pc := 74) B hW hS 3 0 rfl rfl ii (tb_at tk_X8_night 44 rfl) (w_X8_night cI cZ cQ cW z_o z_weight_a z_wants_a z_wantsMany_a z_st_a z_was_a z_images_a z_isKept_a z_told_a z_text_a z_saidWeight_a z_saidNights_a z_saidWants_a z_saidMany_a z_now_a z_gave_a z_at_a z_way_a z_bestWay_a z_made_a z_people z_known_17 z_toldMany z_trace z_texted z_cursor z_start z_token z_number z_isWrong z_items z_saidPeople z_saidLaw z_ringed_39 z_lumps_39 z_st z_was_17 (upd z_now_l44 ((6 : Int32) + y1_l44).toNatClampNeg ((z_now_l44 ((6 : Int32) + y1_l44).toNatClampNeg) - (((z_st ((12 : Int32)).toNatClampNeg) >>> (y1_l44 &&& 31)) &&& 1))) z_gave_39 z_wantsMany z_wants z_weight z_at_39) rfl (fun H locs hW hS => ?_)
          refine lv_iinc (pc := 75) (v := y1_l44 + 1) (lv' := [(1, .int (y1_l44 + 1)), (0, .ref z_o)]) hx hb (tb_at tk_X8_night 45 rfl) hl (k := 1) rfl rfl (by decide) rfl (fun ls hl => ?_)
          refine lv_goto (pc := 78) (tgt := 44) hx hb (tb_at tk_X8_night 46 rfl) (by decide) ?_
          exact ih44 (y1_l44 + 1) (upd z_now_l44 ((6 : Int32) + y1_l44).toNatClampNeg ((z_now_l44 ((6 : Int32) + y1_l44).toNatClampNeg) - (((z_st ((12 : Int32)).toNatClampNeg) >>> (y1_l44 &&& 31)) &&& 1))) _ _ _ h hW hS (lv_sub hl [1, 0] rfl)
    exact w44 N 0 z_now_39 _ _ _ h hW hS (lv_sub hl [1, 0] rfl)
  · have h := it_t cc h
    refine lv_bipush (pc := 13) (v := (-2)) hx hb (tb_at tk_X8_night 6 rfl) (by decide) ?_
    exact hQ (-2) (z_known, z_ringed, z_lumps, z_st, z_was, z_now, z_gave, z_at) _ _ _ 15 rfl h hW hS (tb_at tk_X8_night 7 rfl)
def f_X8_sumOf_j37 {ρ : Type} (y2_l4 : Int32) (y3_l4 : Int32) (kb4 : Int32 → Int32 → Option ρ) (s1_j37 : Int32) : Option ρ := kb4 (y2_l4 + s1_j37) (y3_l4 + 1)
def f_X8_sumOf_l4 {ρ : Type} (x1 : Int32) (z_st : Nat → Int32) (k : Int32 → Option ρ) (N : Nat) : Nat → Int32 → Int32 → Option ρ
  | 0, _, _ => none
  | n4 + 1, y2_l4, y3_l4 => ck (ivi (13 : Int32) 25) (if (z_st ((13 : Int32)).toNatClampNeg) ≤ y3_l4 then (k y2_l4) else (f_X8_has N x1 y3_l4 (fun r18 => if r18 = 0 then (f_X8_sumOf_j37 y2_l4 y3_l4 (f_X8_sumOf_l4 x1 z_st k N n4) 0) else (ck (ivi ((14 : Int32) + y3_l4) 25) (f_X8_sumOf_j37 y2_l4 y3_l4 (f_X8_sumOf_l4 x1 z_st k N n4) (z_st ((14 : Int32) + y3_l4).toNatClampNeg))))))
def f_X8_sumOf {ρ : Type} (N : Nat) (z_st : Nat → Int32) (x1 : Int32) (k : Int32 → Option ρ) : Option ρ := f_X8_sumOf_l4 x1 z_st k N N 0 0
abbrev w_X8_sumOf (cI cZ cQ cW : ClassId) (z_o : Nat) (z_weight_a : Nat) (z_wants_a : Nat) (z_wantsMany_a : Nat) (z_st_a : Nat) (z_was_a : Nat) (z_images_a : Nat) (z_isKept_a : Nat) (z_told_a : Nat) (z_text_a : Nat) (z_saidWeight_a : Nat) (z_saidNights_a : Nat) (z_saidWants_a : Nat) (z_saidMany_a : Nat) (z_now_a : Nat) (z_gave_a : Nat) (z_at_a : Nat) (z_way_a : Nat) (z_bestWay_a : Nat) (z_made_a : Nat) (z_people : Int32) (z_known : Int32) (z_toldMany : Int32) (z_trace : Int64) (z_texted : Int32) (z_cursor : Int32) (z_start : Int32) (z_token : Int32) (z_number : Int32) (z_isWrong : Int32) (z_items : Int32) (z_saidPeople : Int32) (z_saidLaw : Int32) (z_ringed : Int32) (z_lumps : Int32) (z_st : Nat → Int32) : va_W := [(z_o, .inr (8, [.int z_people, .ref z_weight_a, .ref z_wants_a, .ref z_wantsMany_a, .ref z_st_a, .ref z_was_a, .int z_known, .ref z_images_a, .ref z_isKept_a, .int z_toldMany, .ref z_told_a, .long z_trace, .ref z_text_a, .int z_texted, .int z_cursor, .int z_start, .int z_token, .int z_number, .int z_isWrong, .int z_items, .int z_saidPeople, .ref z_saidWeight_a, .ref z_saidNights_a, .ref z_saidWants_a, .ref z_saidMany_a, .int z_saidLaw, .ref z_now_a, .ref z_gave_a, .ref z_at_a, .int z_ringed, .int z_lumps, .ref z_way_a, .ref z_bestWay_a, .ref z_made_a])), (z_st_a, .inl (cI, 25, .inl z_st))]
abbrev rm_X8_sumOf : Room := { frames := 1, cells := 0, slots := 0, locals := 21 }
set_option maxHeartbeats 4000000 in
set_option maxRecDepth 100000 in
theorem c_X8_sumOf (l : Launch) (dC : Nat → ClassId) (dI : Nat → Nat → Nat) (cI cZ cQ cW : ClassId) (z_o : Nat) (z_weight_a : Nat) (z_wants_a : Nat) (z_wantsMany_a : Nat) (z_st_a : Nat) (z_was_a : Nat) (z_images_a : Nat) (z_isKept_a : Nat) (z_told_a : Nat) (z_text_a : Nat) (z_saidWeight_a : Nat) (z_saidNights_a : Nat) (z_saidWants_a : Nat) (z_saidMany_a : Nat) (z_now_a : Nat) (z_gave_a : Nat) (z_at_a : Nat) (z_way_a : Nat) (z_bestWay_a : Nat) (z_made_a : Nat) (z_people : Int32) (z_known : Int32) (z_toldMany : Int32) (z_trace : Int64) (z_texted : Int32) (z_cursor : Int32) (z_start : Int32) (z_token : Int32) (z_number : Int32) (z_isWrong : Int32) (z_items : Int32) (z_saidPeople : Int32) (z_saidLaw : Int32) (z_ringed : Int32) (z_lumps : Int32) (z_st : Nat → Int32) (x1 : Int32) {ρ : Type} (N : Nat) (k : Int32 → Option ρ) (res : ρ) (h : f_X8_sumOf N z_st x1 k = some res) : Ci l yX8_sumOf (WS yX8_sumOf cX8_sumOf 4 (some .int)) rm_X8_sumOf (dC, dI) (tysG cI cZ cQ cW) E0 [.ref z_o, .int x1] (w_X8_sumOf cI cZ cQ cW z_o z_weight_a z_wants_a z_wantsMany_a z_st_a z_was_a z_images_a z_isKept_a z_told_a z_text_a z_saidWeight_a z_saidNights_a z_saidWants_a z_saidMany_a z_now_a z_gave_a z_at_a z_way_a z_bestWay_a z_made_a z_people z_known z_toldMany z_trace z_texted z_cursor z_start z_token z_number z_isWrong z_items z_saidPeople z_saidLaw z_ringed z_lumps z_st) (fun (_ : Unit) => (w_X8_sumOf cI cZ cQ cW z_o z_weight_a z_wants_a z_wantsMany_a z_st_a z_was_a z_images_a z_isKept_a z_told_a z_text_a z_saidWeight_a z_saidNights_a z_saidWants_a z_saidMany_a z_now_a z_gave_a z_at_a z_way_a z_bestWay_a z_made_a z_people z_known z_toldMany z_trace z_texted z_cursor z_start z_token z_number z_isWrong z_items z_saidPeople z_saidLaw z_ringed z_lumps z_st)) (fun r _ => k r = some res) := by
  refine Ci.of (cc := cX8_sumOf) (n := 4) (by decide +kernel) (Nat.le_of_ble_eq_true rfl) ?_
  intro p e s m args below meth c A ls Q B hW hE hS hl hQ
  have hx := B.1
  have hb := B.2.1
  have hl : lv_has ls 4 [(0, .ref z_o), (1, .int x1)] := hl
  unfold f_X8_sumOf at h
  refine lv_iconst (pc := 0) (v := 0) hx hb (tb_at tk_X8_sumOf 0 rfl) (by decide) ?_
  refine lv_istore_n (pc := 1) (lv' := [(2, .int 0), (0, .ref z_o), (1, .int x1)]) hx hb (tb_at tk_X8_sumOf 1 rfl) rfl hl (by decide) rfl (fun ls hl => ?_)
  refine lv_iconst (pc := 2) (v := 0) hx hb (tb_at tk_X8_sumOf 2 rfl) (by decide) ?_
  refine lv_istore_n (pc := 3) (lv' := [(3, .int 0), (2, .int 0), (0, .ref z_o), (1, .int x1)]) hx hb (tb_at tk_X8_sumOf 3 rfl) rfl hl (by decide) rfl (fun ls hl => ?_)
  have w4 : ∀ (n : Nat), ∀ (y2_l4 : Int32) (y3_l4 : Int32) (H : Heap) (locs : List Loc) (ls : Array Slot), f_X8_sumOf_l4 x1 z_st k N n y2_l4 y3_l4 = some res → PD (dC, dI) A (w_X8_sumOf cI cZ cQ cW z_o z_weight_a z_wants_a z_wantsMany_a z_st_a z_was_a z_images_a z_isKept_a z_told_a z_text_a z_saidWeight_a z_saidNights_a z_saidWants_a z_saidMany_a z_now_a z_gave_a z_at_a z_way_a z_bestWay_a z_made_a z_people z_known z_toldMany z_trace z_texted z_cursor z_start z_token z_number z_isWrong z_items z_saidPeople z_saidLaw z_ringed z_lumps z_st) H → va_S A s.heap H locs → lv_has ls 4 [(0, .ref z_o), (1, .int x1), (2, .int y2_l4), (3, .int y3_l4)] → W p l e rm_X8_sumOf s m args below meth c H locs 0 0 Q (F0 m 4 ls []) := by
    intro n
    induction n with
    | zero => intro y2_l4 y3_l4 H locs ls h; exact no_n h
    | succ n4 ih4 =>
      intro y2_l4 y3_l4 H locs ls h hW hS hl
      rw [f_X8_sumOf_l4] at h
      refine lv_iload_n (pc := 4) hx hb (tb_at tk_X8_sumOf 4 rfl) rfl (lv_at hl 3 rfl) ?_
      refine lv_aload_n (pc := 5) hx hb (tb_at tk_X8_sumOf 5 rfl) rfl (lv_at hl 0 rfl) ?_
      refine k_get (pc := 6) (v := .ref z_st_a) (T := TX8) B inG8 hW 0 rfl rfl 4 (by decide) q_f_X8_19 rfl rfl (tb_at tk_X8_sumOf 6 rfl) ?_
      refine lv_bipush (pc := 9) (v := 13) hx hb (tb_at tk_X8_sumOf 7 rfl) (by decide) ?_
      have ii := ivi_in (ck_l h)
      have h := ck_r h
      refine k_iald (pc := 11) B hW 1 0 rfl rfl ii (tb_at tk_X8_sumOf 8 rfl) ?_
      refine lv_icmp_ge (pc := 12) (tgt := 45) hx hb (tb_at tk_X8_sumOf 9 rfl) (by decide) (fun cc => ?_) (fun cc => ?_)
      · have h := it_t cc h
        refine lv_iload_n (pc := 45) hx hb (tb_at tk_X8_sumOf 27 rfl) rfl (lv_at hl 2 rfl) ?_
        exact hQ y2_l4 () _ _ _ 46 rfl h hW hS (tb_at tk_X8_sumOf 28 rfl)
      · have h := it_f cc h
        refine lv_iload_n (pc := 15) hx hb (tb_at tk_X8_sumOf 10 rfl) rfl (lv_at hl 2 rfl) ?_
        refine lv_iload_n (pc := 16) hx hb (tb_at tk_X8_sumOf 11 rfl) rfl (lv_at hl 1 rfl) ?_
        refine lv_iload_n (pc := 17) hx hb (tb_at tk_X8_sumOf 12 rfl) rfl (lv_at hl 3 rfl) ?_
        refine k_call0 (pc := 18) B (k_runSi (rest := [.int y2_l4]) (host := "") B (c_X8_has l dC dI cI cZ cQ cW   x1 y3_l4 N _ res h) E0_st (fun _ _ _ => trivial) q_c_X8_has q_m_X8_113 q_t_X8_has q_n_X8 hd_X8_has ⟨rfl, rfl⟩ ⟨Nat.le_of_ble_eq_true rfl, Nat.le_of_ble_eq_true rfl⟩ hW [] rfl (by decide +kernel) rfl hl.1 rfl (Nat.le_of_ble_eq_true rfl) (tb_at tk_X8_sumOf 13 rfl) ⟨Nat.zero_le _, Nat.zero_le _⟩) hW hS (fun r18 u H locs h hW hS => ?_)
        have w37 : ∀ (s1_j37 : Int32) (H : Heap) (locs : List Loc) (ls : Array Slot), f_X8_sumOf_j37 y2_l4 y3_l4 (f_X8_sumOf_l4 x1 z_st k N n4) s1_j37 = some res → PD (dC, dI) A (w_X8_sumOf cI cZ cQ cW z_o z_weight_a z_wants_a z_wantsMany_a z_st_a z_was_a z_images_a z_isKept_a z_told_a z_text_a z_saidWeight_a z_saidNights_a z_saidWants_a z_saidMany_a z_now_a z_gave_a z_at_a z_way_a z_bestWay_a z_made_a z_people z_known z_toldMany z_trace z_texted z_cursor z_start z_token z_number z_isWrong z_items z_saidPeople z_saidLaw z_ringed z_lumps z_st) H → va_S A s.heap H locs → lv_has ls 4 [(0, .ref z_o), (1, .int x1), (3, .int y3_l4)] → W p l e rm_X8_sumOf s m args below meth c H locs 0 0 Q (F0 m 37 ls [.int s1_j37, .int y2_l4]) := by
          intro s1_j37 H locs ls h hW hS hl
          unfold f_X8_sumOf_j37 at h
          refine lv_iadd (pc := 37) hx hb (tb_at tk_X8_sumOf 23 rfl) ?_
          refine lv_istore_n (pc := 38) (lv' := [(2, .int (y2_l4 + s1_j37)), (0, .ref z_o), (1, .int x1), (3, .int y3_l4)]) hx hb (tb_at tk_X8_sumOf 24 rfl) rfl hl (by decide) rfl (fun ls hl => ?_)
          refine lv_iinc (pc := 39) (v := y3_l4 + 1) (lv' := [(3, .int (y3_l4 + 1)), (2, .int (y2_l4 + s1_j37)), (0, .ref z_o), (1, .int x1)]) hx hb (tb_at tk_X8_sumOf 25 rfl) hl (k := 3) rfl rfl (by decide) rfl (fun ls hl => ?_)
          refine lv_goto (pc := 42) (tgt := 4) hx hb (tb_at tk_X8_sumOf 26 rfl) (by decide) ?_
          exact ih4 (y2_l4 + s1_j37) (y3_l4 + 1) _ _ _ h hW hS (lv_sub hl [2, 3, 1, 0] rfl)
        refine lv_if_eq (pc := 21) (tgt := 36) hx hb (tb_at tk_X8_sumOf 14 rfl) (by decide) (fun cc => ?_) (fun cc => ?_)
        · have h := it_t cc h
          refine lv_iconst (pc := 36) (v := 0) hx hb (tb_at tk_X8_sumOf 22 rfl) (by decide) ?_
          exact w37 0 _ _ _ h hW hS (lv_sub hl [0, 1, 3] rfl)
        · have h := it_f cc h
          refine lv_aload_n (pc := 24) hx hb (tb_at tk_X8_sumOf 15 rfl) rfl (lv_at hl 0 rfl) ?_
          refine k_get (pc := 25) (v := .ref z_st_a) (T := TX8) B inG8 hW 0 rfl rfl 4 (by decide) q_f_X8_19 rfl rfl (tb_at tk_X8_sumOf 16 rfl) ?_
          refine lv_bipush (pc := 28) (v := 14) hx hb (tb_at tk_X8_sumOf 17 rfl) (by decide) ?_
          refine lv_iload_n (pc := 30) hx hb (tb_at tk_X8_sumOf 18 rfl) rfl (lv_at hl 3 rfl) ?_
          refine lv_iadd (pc := 31) hx hb (tb_at tk_X8_sumOf 19 rfl) ?_
          have ii := ivi_in (ck_l h)
          have h := ck_r h
          refine k_iald (pc := 32) B hW 1 0 rfl rfl ii (tb_at tk_X8_sumOf 20 rfl) ?_
          refine lv_goto (pc := 33) (tgt := 37) hx hb (tb_at tk_X8_sumOf 21 rfl) (by decide) ?_
          exact w37 (z_st ((14 : Int32) + y3_l4).toNatClampNeg) _ _ _ h hW hS (lv_sub hl [0, 1, 3] rfl)
  exact w4 N 0 0 _ _ _ h hW hS (lv_sub hl [2, 3, 1, 0] rfl)
def f_X8_joins_e88 {ρ : Type} (z_known_35 : Int32) (z_was_35 : Nat → Int32) (k : Int32 → Int32 → (Nat → Int32) → (Nat → Int32) → Option ρ) (y2_e88 : Int32) (z_st_e88 : Nat → Int32) : Option ρ := ck (ivi (13 : Int32) 25) (ck (ivi (22 : Int32) 25) (ck (ivi (22 : Int32) 25) (ck (ivi (22 : Int32) 25) (k ((upd (upd z_st_e88 ((13 : Int32)).toNatClampNeg y2_e88) ((22 : Int32)).toNatClampNeg (((upd z_st_e88 ((13 : Int32)).toNatClampNeg y2_e88) ((22 : Int32)).toNatClampNeg) + 1)) ((22 : Int32)).toNatClampNeg) z_known_35 (upd (upd z_st_e88 ((13 : Int32)).toNatClampNeg y2_e88) ((22 : Int32)).toNatClampNeg (((upd z_st_e88 ((13 : Int32)).toNatClampNeg y2_e88) ((22 : Int32)).toNatClampNeg) + 1)) z_was_35))))
def f_X8_joins_l42 {ρ : Type} (x1 : Int32) (k88 : Int32 → (Nat → Int32) → Option ρ) (N : Nat) : Nat → Int32 → Int32 → (Nat → Int32) → Option ρ
  | 0, _, _, _ => none
  | n42 + 1, y2_l42, y3_l42, z_st_l42 => ck (ivi (13 : Int32) 25) (if (z_st_l42 ((13 : Int32)).toNatClampNeg) ≤ y3_l42 then (k88 y2_l42 z_st_l42) else (f_X8_has N x1 y3_l42 (fun r55 => if r55 = 0 then (ck (ivi ((14 : Int32) + y3_l42) 25) (ck (ivi ((14 : Int32) + y2_l42) 25) ((f_X8_joins_l42 x1 k88 N n42) (y2_l42 + 1) (y3_l42 + 1) (upd z_st_l42 ((14 : Int32) + y2_l42).toNatClampNeg (z_st_l42 ((14 : Int32) + y3_l42).toNatClampNeg))))) else ((f_X8_joins_l42 x1 k88 N n42) y2_l42 (y3_l42 + 1) z_st_l42))))
def f_X8_joins {ρ : Type} (N : Nat) (z_known : Int32) (z_st : Nat → Int32) (z_was : Nat → Int32) (x1 : Int32) (k : Int32 → Int32 → (Nat → Int32) → (Nat → Int32) → Option ρ) : Option ρ := ck (ivi (13 : Int32) 25) (f_X8_in N x1 1 (((1 : Int32) <<< ((z_st ((13 : Int32)).toNatClampNeg) &&& 31)) - 1) (fun r13 => if r13 = 0 then (k (-1) z_known z_st z_was) else (f_X8_sumOf N z_st x1 (fun r23 => if r23 = 60 then (f_X8_remembers N z_known z_was z_st (fun z_known_35 z_was_35 => f_X8_joins_l42 x1 (fun y2_e88 z_st_e88 => f_X8_joins_e88 z_known_35 z_was_35 k y2_e88 z_st_e88) N N 0 0 z_st)) else (k (-2) z_known z_st z_was)))))
abbrev w_X8_joins (cI cZ cQ cW : ClassId) (z_o : Nat) (z_weight_a : Nat) (z_wants_a : Nat) (z_wantsMany_a : Nat) (z_st_a : Nat) (z_was_a : Nat) (z_images_a : Nat) (z_isKept_a : Nat) (z_told_a : Nat) (z_text_a : Nat) (z_saidWeight_a : Nat) (z_saidNights_a : Nat) (z_saidWants_a : Nat) (z_saidMany_a : Nat) (z_now_a : Nat) (z_gave_a : Nat) (z_at_a : Nat) (z_way_a : Nat) (z_bestWay_a : Nat) (z_made_a : Nat) (z_people : Int32) (z_known : Int32) (z_toldMany : Int32) (z_trace : Int64) (z_texted : Int32) (z_cursor : Int32) (z_start : Int32) (z_token : Int32) (z_number : Int32) (z_isWrong : Int32) (z_items : Int32) (z_saidPeople : Int32) (z_saidLaw : Int32) (z_ringed : Int32) (z_lumps : Int32) (z_st : Nat → Int32) (z_was : Nat → Int32) : va_W := [(z_o, .inr (8, [.int z_people, .ref z_weight_a, .ref z_wants_a, .ref z_wantsMany_a, .ref z_st_a, .ref z_was_a, .int z_known, .ref z_images_a, .ref z_isKept_a, .int z_toldMany, .ref z_told_a, .long z_trace, .ref z_text_a, .int z_texted, .int z_cursor, .int z_start, .int z_token, .int z_number, .int z_isWrong, .int z_items, .int z_saidPeople, .ref z_saidWeight_a, .ref z_saidNights_a, .ref z_saidWants_a, .ref z_saidMany_a, .int z_saidLaw, .ref z_now_a, .ref z_gave_a, .ref z_at_a, .int z_ringed, .int z_lumps, .ref z_way_a, .ref z_bestWay_a, .ref z_made_a])), (z_st_a, .inl (cI, 25, .inl z_st)), (z_was_a, .inl (cI, 250, .inl z_was))]
abbrev rm_X8_joins : Room := { frames := 2, cells := 0, slots := 0, locals := 45 }
set_option maxHeartbeats 4000000 in
set_option maxRecDepth 100000 in
theorem c_X8_joins (l : Launch) (dC : Nat → ClassId) (dI : Nat → Nat → Nat) (cI cZ cQ cW : ClassId) (z_o : Nat) (z_weight_a : Nat) (z_wants_a : Nat) (z_wantsMany_a : Nat) (z_st_a : Nat) (z_was_a : Nat) (z_images_a : Nat) (z_isKept_a : Nat) (z_told_a : Nat) (z_text_a : Nat) (z_saidWeight_a : Nat) (z_saidNights_a : Nat) (z_saidWants_a : Nat) (z_saidMany_a : Nat) (z_now_a : Nat) (z_gave_a : Nat) (z_at_a : Nat) (z_way_a : Nat) (z_bestWay_a : Nat) (z_made_a : Nat) (z_people : Int32) (z_known : Int32) (z_toldMany : Int32) (z_trace : Int64) (z_texted : Int32) (z_cursor : Int32) (z_start : Int32) (z_token : Int32) (z_number : Int32) (z_isWrong : Int32) (z_items : Int32) (z_saidPeople : Int32) (z_saidLaw : Int32) (z_ringed : Int32) (z_lumps : Int32) (z_st : Nat → Int32) (z_was : Nat → Int32) (x1 : Int32) {ρ : Type} (N : Nat) (k : Int32 → Int32 → (Nat → Int32) → (Nat → Int32) → Option ρ) (res : ρ) (h : f_X8_joins N z_known z_st z_was x1 k = some res) : Ci l yX8_joins (WS yX8_joins cX8_joins 4 (some .int)) rm_X8_joins (dC, dI) (tysG cI cZ cQ cW) E0 [.ref z_o, .int x1] (w_X8_joins cI cZ cQ cW z_o z_weight_a z_wants_a z_wantsMany_a z_st_a z_was_a z_images_a z_isKept_a z_told_a z_text_a z_saidWeight_a z_saidNights_a z_saidWants_a z_saidMany_a z_now_a z_gave_a z_at_a z_way_a z_bestWay_a z_made_a z_people z_known z_toldMany z_trace z_texted z_cursor z_start z_token z_number z_isWrong z_items z_saidPeople z_saidLaw z_ringed z_lumps z_st z_was) (fun (u : Int32 × (Nat → Int32) × (Nat → Int32)) => (w_X8_joins cI cZ cQ cW z_o z_weight_a z_wants_a z_wantsMany_a z_st_a z_was_a z_images_a z_isKept_a z_told_a z_text_a z_saidWeight_a z_saidNights_a z_saidWants_a z_saidMany_a z_now_a z_gave_a z_at_a z_way_a z_bestWay_a z_made_a z_people u.1 z_toldMany z_trace z_texted z_cursor z_start z_token z_number z_isWrong z_items z_saidPeople z_saidLaw z_ringed z_lumps u.2.1 u.2.2)) (fun r u => k r u.1 u.2.1 u.2.2 = some res) := by
  refine Ci.of (cc := cX8_joins) (n := 4) (by decide +kernel) (Nat.le_of_ble_eq_true rfl) ?_
  intro p e s m args below meth c A ls Q B hW hE hS hl hQ
  have hx := B.1
  have hb := B.2.1
  have hl : lv_has ls 4 [(0, .ref z_o), (1, .int x1)] := hl
  unfold f_X8_joins at h
  refine lv_iload_n (pc := 0) hx hb (tb_at tk_X8_joins 0 rfl) rfl (lv_at hl 1 rfl) ?_
  refine lv_iconst (pc := 1) (v := 1) hx hb (tb_at tk_X8_joins 1 rfl) (by decide) ?_
  refine lv_iconst (pc := 2) (v := 1) hx hb (tb_at tk_X8_joins 2 rfl) (by decide) ?_
  refine lv_aload_n (pc := 3) hx hb (tb_at tk_X8_joins 3 rfl) rfl (lv_at hl 0 rfl) ?_
  refine k_get (pc := 4) (v := .ref z_st_a) (T := TX8) B inG8 hW 0 rfl rfl 4 (by decide) q_f_X8_19 rfl rfl (tb_at tk_X8_joins 4 rfl) ?_
  refine lv_bipush (pc := 7) (v := 13) hx hb (tb_at tk_X8_joins 5 rfl) (by decide) ?_
  have ii := ivi_in (ck_l h)
  have h := ck_r h
  refine k_iald (pc := 9) B hW 1 0 rfl rfl ii (tb_at tk_X8_joins 6 rfl) ?_
  refine lv_ishl (pc := 10) hx hb (tb_at tk_X8_joins 7 rfl) ?_
  refine lv_iconst (pc := 11) (v := 1) hx hb (tb_at tk_X8_joins 8 rfl) (by decide) ?_
  refine lv_isub (pc := 12) hx hb (tb_at tk_X8_joins 9 rfl) ?_
  refine k_call0 (pc := 13) B (k_runSi (rest := []) (host := "") B (c_X8_in l dC dI cI cZ cQ cW   x1 1 (((1 : Int32) <<< ((z_st ((13 : Int32)).toNatClampNeg) &&& 31)) - 1) N _ res h) E0_st (fun _ _ _ => trivial) q_c_X8_in q_m_X8_72 q_t_X8_in q_n_X8 hd_X8_in ⟨rfl, rfl⟩ ⟨Nat.le_of_ble_eq_true rfl, Nat.le_of_ble_eq_true rfl⟩ hW [] rfl (by decide +kernel) rfl hl.1 rfl (Nat.le_of_ble_eq_true rfl) (tb_at tk_X8_joins 10 rfl) ⟨Nat.zero_le _, Nat.zero_le _⟩) hW hS (fun r13 u H locs h hW hS => ?_)
  refine lv_if_ne (pc := 16) (tgt := 21) hx hb (tb_at tk_X8_joins 11 rfl) (by decide) (fun cc => ?_) (fun cc => ?_)
  · have h := it_f cc h
    refine lv_aload_n (pc := 21) hx hb (tb_at tk_X8_joins 14 rfl) rfl (lv_at hl 0 rfl) ?_
    refine lv_iload_n (pc := 22) hx hb (tb_at tk_X8_joins 15 rfl) rfl (lv_at hl 1 rfl) ?_
    refine k_calli (pc := 23) B (k_runVi (rest := []) (C := RX8) B (c_X8_sumOf l dC dI cI cZ cQ cW z_o z_weight_a z_wants_a z_wantsMany_a z_st_a z_was_a z_images_a z_isKept_a z_told_a z_text_a z_saidWeight_a z_saidNights_a z_saidWants_a z_saidMany_a z_now_a z_gave_a z_at_a z_way_a z_bestWay_a z_made_a z_people z_known z_toldMany z_trace z_texted z_cursor z_start z_token z_number z_isWrong z_items z_saidPeople z_saidLaw z_ringed z_lumps z_st x1 N _ res h) E0_st (fun _ _ _ => trivial) q_c_X8_sumOf q_m_X8_188 q_i_X8_sumOf q_s_X8_sumOf q_n_X8 hd_X8_sumOf ⟨rfl, rfl⟩ ⟨Nat.le_of_ble_eq_true rfl, Nat.le_of_ble_eq_true rfl⟩ hW [0, 1] rfl (by decide +kernel) (q0 := 0) (ci := 8) rfl rfl rfl hl.1 rfl (Nat.le_of_ble_eq_true rfl) (tb_at tk_X8_joins 16 rfl) ⟨Nat.zero_le _, Nat.zero_le _⟩) hW hS [0, 1] rfl [z_o, z_st_a] rfl (fun _ => rfl) [some 0, some 1, none] (by decide +kernel) (fun _ => (w_X8_joins cI cZ cQ cW z_o z_weight_a z_wants_a z_wantsMany_a z_st_a z_was_a z_images_a z_isKept_a z_told_a z_text_a z_saidWeight_a z_saidNights_a z_saidWants_a z_saidMany_a z_now_a z_gave_a z_at_a z_way_a z_bestWay_a z_made_a z_people z_known z_toldMany z_trace z_texted z_cursor z_start z_token z_number z_isWrong z_items z_saidPeople z_saidLaw z_ringed z_lumps z_st z_was)) (fun _ => rfl) (fun r23 u H locs h hW hS => ?_)
    have hW : PD (dC, dI) A (w_X8_joins cI cZ cQ cW z_o z_weight_a z_wants_a z_wantsMany_a z_st_a z_was_a z_images_a z_isKept_a z_told_a z_text_a z_saidWeight_a z_saidNights_a z_saidWants_a z_saidMany_a z_now_a z_gave_a z_at_a z_way_a z_bestWay_a z_made_a z_people z_known z_toldMany z_trace z_texted z_cursor z_start z_token z_number z_isWrong z_items z_saidPeople z_saidLaw z_ringed z_lumps z_st z_was) H := hW
    refine lv_bipush (pc := 26) (v := 60) hx hb (tb_at tk_X8_joins 17 rfl) (by decide) ?_
    refine lv_icmp_eq (pc := 28) (tgt := 34) hx hb (tb_at tk_X8_joins 18 rfl) (by decide) (fun cc => ?_) (fun cc => ?_)
    · have h := it_t cc h
      refine lv_aload_n (pc := 34) hx hb (tb_at tk_X8_joins 21 rfl) rfl (lv_at hl 0 rfl) ?_
      refine k_callv (pc := 35) B (k_runVv (rest := []) (C := RX8) B (c_X8_remembers l dC dI cI cZ cQ cW z_o z_weight_a z_wants_a z_wantsMany_a z_st_a z_was_a z_images_a z_isKept_a z_told_a z_text_a z_saidWeight_a z_saidNights_a z_saidWants_a z_saidMany_a z_now_a z_gave_a z_at_a z_way_a z_bestWay_a z_made_a z_people z_known z_toldMany z_trace z_texted z_cursor z_start z_token z_number z_isWrong z_items z_saidPeople z_saidLaw z_ringed z_lumps z_was z_st  N _ res h) E0_st (fun _ _ _ => trivial) q_c_X8_remembers q_m_X8_175 q_i_X8_remembers q_s_X8_remembers q_n_X8 hd_X8_remembers ⟨rfl, rfl⟩ ⟨Nat.le_of_ble_eq_true rfl, Nat.le_of_ble_eq_true rfl⟩ hW [0, 2, 1] rfl (by decide +kernel) (q0 := 0) (ci := 8) rfl rfl rfl hl.1 rfl (Nat.le_of_ble_eq_true rfl) (tb_at tk_X8_joins 22 rfl) ⟨Nat.zero_le _, Nat.zero_le _⟩) hW hS [0, 2, 1] rfl [z_o, z_was_a, z_st_a] rfl (fun _ => rfl) [some 0, some 2, some 1] (by decide +kernel) (fun u => (w_X8_joins cI cZ cQ cW z_o z_weight_a z_wants_a z_wantsMany_a z_st_a z_was_a z_images_a z_isKept_a z_told_a z_text_a z_saidWeight_a z_saidNights_a z_saidWants_a z_saidMany_a z_now_a z_gave_a z_at_a z_way_a z_bestWay_a z_made_a z_people u.1 z_toldMany z_trace z_texted z_cursor z_start z_token z_number z_isWrong z_items z_saidPeople z_saidLaw z_ringed z_lumps z_st u.2)) (fun _ => rfl) (fun u H locs h hW hS => ?_)
      obtain ⟨z_known_35, z_was_35⟩ := u
      dsimp only at h
      have hW : PD (dC, dI) A (w_X8_joins cI cZ cQ cW z_o z_weight_a z_wants_a z_wantsMany_a z_st_a z_was_a z_images_a z_isKept_a z_told_a z_text_a z_saidWeight_a z_saidNights_a z_saidWants_a z_saidMany_a z_now_a z_gave_a z_at_a z_way_a z_bestWay_a z_made_a z_people z_known_35 z_toldMany z_trace z_texted z_cursor z_start z_token z_number z_isWrong z_items z_saidPeople z_saidLaw z_ringed z_lumps z_st z_was_35) H := hW
      refine lv_iconst (pc := 38) (v := 0) hx hb (tb_at tk_X8_joins 23 rfl) (by decide) ?_
      refine lv_istore_n (pc := 39) (lv' := [(2, .int 0), (0, .ref z_o), (1, .int x1)]) hx hb (tb_at tk_X8_joins 24 rfl) rfl hl (by decide) rfl (fun ls hl => ?_)
      refine lv_iconst (pc := 40) (v := 0) hx hb (tb_at tk_X8_joins 25 rfl) (by decide) ?_
      refine lv_istore_n (pc := 41) (lv' := [(3, .int 0), (2, .int 0), (0, .ref z_o), (1, .int x1)]) hx hb (tb_at tk_X8_joins 26 rfl) rfl hl (by decide) rfl (fun ls hl => ?_)
      have w88 : ∀ (y2_e88 : Int32) (z_st_e88 : Nat → Int32) (H : Heap) (locs : List Loc) (ls : Array Slot), f_X8_joins_e88 z_known_35 z_was_35 k y2_e88 z_st_e88 = some res → PD (dC, dI) A (w_X8_joins cI cZ cQ cW z_o z_weight_a z_wants_a z_wantsMany_a z_st_a z_was_a z_images_a z_isKept_a z_told_a z_text_a z_saidWeight_a z_saidNights_a z_saidWants_a z_saidMany_a z_now_a z_gave_a z_at_a z_way_a z_bestWay_a z_made_a z_people z_known_35 z_toldMany z_trace z_texted z_cursor z_start z_token z_number z_isWrong z_items z_saidPeople z_saidLaw z_ringed z_lumps z_st_e88 z_was_35) H → va_S A s.heap H locs → lv_has ls 4 [(0, .ref z_o), (2, .int y2_e88)] → W p l e rm_X8_joins s m args below meth c H locs 0 0 Q (F0 m 88 ls []) := by
        intro y2_e88 z_st_e88 H locs ls h hW hS hl
        unfold f_X8_joins_e88 at h
        refine lv_aload_n (pc := 88) hx hb (tb_at tk_X8_joins 52 rfl) rfl (lv_at hl 0 rfl) ?_
        refine k_get (pc := 89) (v := .ref z_st_a) (T := TX8) B inG8 hW 0 rfl rfl 4 (by decide) q_f_X8_19 rfl rfl (tb_at tk_X8_joins 53 rfl) ?_
        refine lv_bipush (pc := 92) (v := 13) hx hb (tb_at tk_X8_joins 54 rfl) (by decide) ?_
        refine lv_iload_n (pc := 94) hx hb (tb_at tk_X8_joins 55 rfl) rfl (lv_at hl 1 rfl) ?_
        have ii := ivi_in (ck_l h)
        have h := ck_r h
        refine k_iast (pc := 95) B hW hS 1 0 rfl rfl ii (tb_at tk_X8_joins 56 rfl) (w_X8_joins cI cZ cQ cW z_o z_weight_a z_wants_a z_wantsMany_a z_st_a z_was_a z_images_a z_isKept_a z_told_a z_text_a z_saidWeight_a z_saidNights_a z_saidWants_a z_saidMany_a z_now_a z_gave_a z_at_a z_way_a z_bestWay_a z_made_a z_people z_known_35 z_toldMany z_trace z_texted z_cursor z_start z_token z_number z_isWrong z_items z_saidPeople z_saidLaw z_ringed z_lumps (upd z_st_e88 ((13 : Int32)).toNatClampNeg y2_e88) z_was_35) rfl (fun H locs hW hS => ?_)
        refine lv_aload_n (pc := 96) hx hb (tb_at tk_X8_joins 57 rfl) rfl (lv_at hl 0 rfl) ?_
        refine k_get (pc := 97) (v := .ref z_st_a) (T := TX8) B inG8 hW 0 rfl rfl 4 (by decide) q_f_X8_19 rfl rfl (tb_at tk_X8_joins 58 rfl) ?_
        refine lv_bipush (pc := 100) (v := 22) hx hb (tb_at tk_X8_joins 59 rfl) (by decide) ?_
        refine lv_dup2_11 (pc := 102) hx hb (tb_at tk_X8_joins 60 rfl) rfl rfl ?_
        have ii := ivi_in (ck_l h)
        have h := ck_r h
        refine k_iald (pc := 103) B hW 1 0 rfl rfl ii (tb_at tk_X8_joins 61 rfl) ?_
        refine lv_iconst (pc := 104) (v := 1) hx hb (tb_at tk_X8_joins 62 rfl) (by decide) ?_
        refine lv_iadd (pc := 105) hx hb (tb_at tk_X8_joins 63 rfl) ?_
        have ii := ivi_in (ck_l h)
        have h := ck_r h
        refine k_iast (pc := 106) B hW hS 1 0 rfl rfl ii (tb_at tk_X8_joins 64 rfl) (w_X8_joins cI cZ cQ cW z_o z_weight_a z_wants_a z_wantsMany_a z_st_a z_was_a z_images_a z_isKept_a z_told_a z_text_a z_saidWeight_a z_saidNights_a z_saidWants_a z_saidMany_a z_now_a z_gave_a z_at_a z_way_a z_bestWay_a z_made_a z_people z_known_35 z_toldMany z_trace z_texted z_cursor z_start z_token z_number z_isWrong z_items z_saidPeople z_saidLaw z_ringed z_lumps (upd (upd z_st_e88 ((13 : Int32)).toNatClampNeg y2_e88) ((22 : Int32)).toNatClampNeg (((upd z_st_e88 ((13 : Int32)).toNatClampNeg y2_e88) ((22 : Int32)).toNatClampNeg) + 1)) z_was_35) rfl (fun H locs hW hS => ?_)
        refine lv_aload_n (pc := 107) hx hb (tb_at tk_X8_joins 65 rfl) rfl (lv_at hl 0 rfl) ?_
        refine k_get (pc := 108) (v := .ref z_st_a) (T := TX8) B inG8 hW 0 rfl rfl 4 (by decide) q_f_X8_19 rfl rfl (tb_at tk_X8_joins 66 rfl) ?_
        refine lv_bipush (pc := 111) (v := 22) hx hb (tb_at tk_X8_joins 67 rfl) (by decide) ?_
        have ii := ivi_in (ck_l h)
        have h := ck_r h
        refine k_iald (pc := 113) B hW 1 0 rfl rfl ii (tb_at tk_X8_joins 68 rfl) ?_
        exact hQ ((upd (upd z_st_e88 ((13 : Int32)).toNatClampNeg y2_e88) ((22 : Int32)).toNatClampNeg (((upd z_st_e88 ((13 : Int32)).toNatClampNeg y2_e88) ((22 : Int32)).toNatClampNeg) + 1)) ((22 : Int32)).toNatClampNeg) (z_known_35, upd (upd z_st_e88 ((13 : Int32)).toNatClampNeg y2_e88) ((22 : Int32)).toNatClampNeg (((upd z_st_e88 ((13 : Int32)).toNatClampNeg y2_e88) ((22 : Int32)).toNatClampNeg) + 1), z_was_35) _ _ _ 114 rfl h hW hS (tb_at tk_X8_joins 69 rfl)
      have w42 : ∀ (n : Nat), ∀ (y2_l42 : Int32) (y3_l42 : Int32) (z_st_l42 : Nat → Int32) (H : Heap) (locs : List Loc) (ls : Array Slot), f_X8_joins_l42 x1 (fun y2_e88 z_st_e88 => f_X8_joins_e88 z_known_35 z_was_35 k y2_e88 z_st_e88) N n y2_l42 y3_l42 z_st_l42 = some res → PD (dC, dI) A (w_X8_joins cI cZ cQ cW z_o z_weight_a z_wants_a z_wantsMany_a z_st_a z_was_a z_images_a z_isKept_a z_told_a z_text_a z_saidWeight_a z_saidNights_a z_saidWants_a z_saidMany_a z_now_a z_gave_a z_at_a z_way_a z_bestWay_a z_made_a z_people z_known_35 z_toldMany z_trace z_texted z_cursor z_start z_token z_number z_isWrong z_items z_saidPeople z_saidLaw z_ringed z_lumps z_st_l42 z_was_35) H → va_S A s.heap H locs → lv_has ls 4 [(0, .ref z_o), (1, .int x1), (2, .int y2_l42), (3, .int y3_l42)] → W p l e rm_X8_joins s m args below meth c H locs 0 0 Q (F0 m 42 ls []) := by
        intro n
        induction n with
        | zero => intro y2_l42 y3_l42 z_st_l42 H locs ls h; exact no_n h
        | succ n42 ih42 =>
          intro y2_l42 y3_l42 z_st_l42 H locs ls h hW hS hl
          rw [f_X8_joins_l42] at h
          refine lv_iload_n (pc := 42) hx hb (tb_at tk_X8_joins 27 rfl) rfl (lv_at hl 3 rfl) ?_
          refine lv_aload_n (pc := 43) hx hb (tb_at tk_X8_joins 28 rfl) rfl (lv_at hl 0 rfl) ?_
          refine k_get (pc := 44) (v := .ref z_st_a) (T := TX8) B inG8 hW 0 rfl rfl 4 (by decide) q_f_X8_19 rfl rfl (tb_at tk_X8_joins 29 rfl) ?_
          refine lv_bipush (pc := 47) (v := 13) hx hb (tb_at tk_X8_joins 30 rfl) (by decide) ?_
          have ii := ivi_in (ck_l h)
          have h := ck_r h
          refine k_iald (pc := 49) B hW 1 0 rfl rfl ii (tb_at tk_X8_joins 31 rfl) ?_
          refine lv_icmp_ge (pc := 50) (tgt := 88) hx hb (tb_at tk_X8_joins 32 rfl) (by decide) (fun cc => ?_) (fun cc => ?_)
          · have h := it_t cc h
            exact w88 y2_l42 z_st_l42 _ _ _ h hW hS (lv_sub hl [0, 2] rfl)
          · have h := it_f cc h
            refine lv_iload_n (pc := 53) hx hb (tb_at tk_X8_joins 33 rfl) rfl (lv_at hl 1 rfl) ?_
            refine lv_iload_n (pc := 54) hx hb (tb_at tk_X8_joins 34 rfl) rfl (lv_at hl 3 rfl) ?_
            refine k_call0 (pc := 55) B (k_runSi (rest := []) (host := "") B (c_X8_has l dC dI cI cZ cQ cW   x1 y3_l42 N _ res h) E0_st (fun _ _ _ => trivial) q_c_X8_has q_m_X8_113 q_t_X8_has q_n_X8 hd_X8_has ⟨rfl, rfl⟩ ⟨Nat.le_of_ble_eq_true rfl, Nat.le_of_ble_eq_true rfl⟩ hW [] rfl (by decide +kernel) rfl hl.1 rfl (Nat.le_of_ble_eq_true rfl) (tb_at tk_X8_joins 35 rfl) ⟨Nat.zero_le _, Nat.zero_le _⟩) hW hS (fun r55 u H locs h hW hS => ?_)
            refine lv_if_ne (pc := 58) (tgt := 82) hx hb (tb_at tk_X8_joins 36 rfl) (by decide) (fun cc => ?_) (fun cc => ?_)
            · have h := it_f cc h
              refine lv_iinc (pc := 82) (v := y3_l42 + 1) (lv' := [(3, .int (y3_l42 + 1)), (0, .ref z_o), (1, .int x1), (2, .int y2_l42)]) hx hb (tb_at tk_X8_joins 50 rfl) hl (k := 3) rfl rfl (by decide) rfl (fun ls hl => ?_)
              refine lv_goto (pc := 85) (tgt := 42) hx hb (tb_at tk_X8_joins 51 rfl) (by decide) ?_
              exact ih42 y2_l42 (y3_l42 + 1) z_st_l42 _ _ _ h hW hS (lv_sub hl [1, 2, 3, 0] rfl)
            · have h := it_t cc h
              refine lv_aload_n (pc := 61) hx hb (tb_at tk_X8_joins 37 rfl) rfl (lv_at hl 0 rfl) ?_
              refine k_get (pc := 62) (v := .ref z_st_a) (T := TX8) B inG8 hW 0 rfl rfl 4 (by decide) q_f_X8_19 rfl rfl (tb_at tk_X8_joins 38 rfl) ?_
              refine lv_bipush (pc := 65) (v := 14) hx hb (tb_at tk_X8_joins 39 rfl) (by decide) ?_
              refine lv_iload_n (pc := 67) hx hb (tb_at tk_X8_joins 40 rfl) rfl (lv_at hl 2 rfl) ?_
              refine lv_iadd (pc := 68) hx hb (tb_at tk_X8_joins 41 rfl) ?_
              refine lv_aload_n (pc := 69) hx hb (tb_at tk_X8_joins 42 rfl) rfl (lv_at hl 0 rfl) ?_
              refine k_get (pc := 70) (v := .ref z_st_a) (T := TX8) B inG8 hW 0 rfl rfl 4 (by decide) q_f_X8_19 rfl rfl (tb_at tk_X8_joins 43 rfl) ?_
              refine lv_bipush (pc := 73) (v := 14) hx hb (tb_at tk_X8_joins 44 rfl) (by decide) ?_
              refine lv_iload_n (pc := 75) hx hb (tb_at tk_X8_joins 45 rfl) rfl (lv_at hl 3 rfl) ?_
              refine lv_iadd (pc := 76) hx hb (tb_at tk_X8_joins 46 rfl) ?_
              have ii := ivi_in (ck_l h)
              have h := ck_r h
              refine k_iald (pc := 77) B hW 1 0 rfl rfl ii (tb_at tk_X8_joins 47 rfl) ?_
              have ii := ivi_in (ck_l h)
              have h := ck_r h
              refine k_iast (pc := 78) B hW hS 1 0 rfl rfl ii (tb_at tk_X8_joins 48 rfl) (w_X8_joins cI cZ cQ cW z_o z_weight_a z_wants_a z_wantsMany_a z_st_a z_was_a z_images_a z_isKept_a z_told_a z_text_a z_saidWeight_a z_saidNights_a z_saidWants_a z_saidMany_a z_now_a z_gave_a z_at_a z_way_a z_bestWay_a z_made_a z_people z_known_35 z_toldMany z_trace z_texted z_cursor z_start z_token z_number z_isWrong z_items z_saidPeople z_saidLaw z_ringed z_lumps (upd z_st_l42 ((14 : Int32) + y2_l42).toNatClampNeg (z_st_l42 ((14 : Int32) + y3_l42).toNatClampNeg)) z_was_35) rfl (fun H locs hW hS => ?_)
              refine lv_iinc (pc := 79) (v := y2_l42 + 1) (lv' := [(2, .int (y2_l42 + 1)), (0, .ref z_o), (1, .int x1), (3, .int y3_l42)]) hx hb (tb_at tk_X8_joins 49 rfl) hl (k := 2) rfl rfl (by decide) rfl (fun ls hl => ?_)
              refine lv_iinc (pc := 82) (v := y3_l42 + 1) (lv' := [(3, .int (y3_l42 + 1)), (2, .int (y2_l42 + 1)), (0, .ref z_o), (1, .int x1)]) hx hb (tb_at tk_X8_joins 50 rfl) hl (k := 3) rfl rfl (by decide) rfl (fun ls hl => ?_)
              refine lv_goto (pc := 85) (tgt := 42) hx hb (tb_at tk_X8_joins 51 rfl) (by decide) ?_
              exact ih42 (y2_l42 + 1) (y3_l42 + 1) (upd z_st_l42 ((14 : Int32) + y2_l42).toNatClampNeg (z_st_l42 ((14 : Int32) + y3_l42).toNatClampNeg)) _ _ _ h hW hS (lv_sub hl [2, 3, 1, 0] rfl)
      exact w42 N 0 0 z_st _ _ _ h hW hS (lv_sub hl [2, 3, 1, 0] rfl)
    · have h := it_f cc h
      refine lv_bipush (pc := 31) (v := (-2)) hx hb (tb_at tk_X8_joins 19 rfl) (by decide) ?_
      exact hQ (-2) (z_known, z_st, z_was) _ _ _ 33 rfl h hW hS (tb_at tk_X8_joins 20 rfl)
  · have h := it_t cc h
    refine lv_iconst (pc := 19) (v := (-1)) hx hb (tb_at tk_X8_joins 12 rfl) (by decide) ?_
    exact hQ (-1) (z_known, z_st, z_was) _ _ _ 20 rfl h hW hS (tb_at tk_X8_joins 13 rfl)
def f_X8_laws {ρ : Type} (N : Nat) (z_known : Int32) (z_st : Nat → Int32) (z_was : Nat → Int32) (x1 : Int32) (k : Int32 → Int32 → (Nat → Int32) → (Nat → Int32) → Option ρ) : Option ρ := f_X8_in N x1 0 2 (fun r3 => if r3 = 0 then (k (-1) z_known z_st z_was) else (ck (ivi (24 : Int32) 25) (if (z_st ((24 : Int32)).toNatClampNeg) = x1 then (k (-2) z_known z_st z_was) else (f_X8_remembers N z_known z_was z_st (fun z_known_28 z_was_28 => ck (ivi (24 : Int32) 25) (k (z_st ((24 : Int32)).toNatClampNeg) z_known_28 (upd z_st ((24 : Int32)).toNatClampNeg x1) z_was_28))))))
abbrev w_X8_laws (cI cZ cQ cW : ClassId) (z_o : Nat) (z_weight_a : Nat) (z_wants_a : Nat) (z_wantsMany_a : Nat) (z_st_a : Nat) (z_was_a : Nat) (z_images_a : Nat) (z_isKept_a : Nat) (z_told_a : Nat) (z_text_a : Nat) (z_saidWeight_a : Nat) (z_saidNights_a : Nat) (z_saidWants_a : Nat) (z_saidMany_a : Nat) (z_now_a : Nat) (z_gave_a : Nat) (z_at_a : Nat) (z_way_a : Nat) (z_bestWay_a : Nat) (z_made_a : Nat) (z_people : Int32) (z_known : Int32) (z_toldMany : Int32) (z_trace : Int64) (z_texted : Int32) (z_cursor : Int32) (z_start : Int32) (z_token : Int32) (z_number : Int32) (z_isWrong : Int32) (z_items : Int32) (z_saidPeople : Int32) (z_saidLaw : Int32) (z_ringed : Int32) (z_lumps : Int32) (z_st : Nat → Int32) (z_was : Nat → Int32) : va_W := [(z_o, .inr (8, [.int z_people, .ref z_weight_a, .ref z_wants_a, .ref z_wantsMany_a, .ref z_st_a, .ref z_was_a, .int z_known, .ref z_images_a, .ref z_isKept_a, .int z_toldMany, .ref z_told_a, .long z_trace, .ref z_text_a, .int z_texted, .int z_cursor, .int z_start, .int z_token, .int z_number, .int z_isWrong, .int z_items, .int z_saidPeople, .ref z_saidWeight_a, .ref z_saidNights_a, .ref z_saidWants_a, .ref z_saidMany_a, .int z_saidLaw, .ref z_now_a, .ref z_gave_a, .ref z_at_a, .int z_ringed, .int z_lumps, .ref z_way_a, .ref z_bestWay_a, .ref z_made_a])), (z_st_a, .inl (cI, 25, .inl z_st)), (z_was_a, .inl (cI, 250, .inl z_was))]
abbrev rm_X8_laws : Room := { frames := 2, cells := 0, slots := 0, locals := 45 }
set_option maxHeartbeats 4000000 in
set_option maxRecDepth 100000 in
theorem c_X8_laws (l : Launch) (dC : Nat → ClassId) (dI : Nat → Nat → Nat) (cI cZ cQ cW : ClassId) (z_o : Nat) (z_weight_a : Nat) (z_wants_a : Nat) (z_wantsMany_a : Nat) (z_st_a : Nat) (z_was_a : Nat) (z_images_a : Nat) (z_isKept_a : Nat) (z_told_a : Nat) (z_text_a : Nat) (z_saidWeight_a : Nat) (z_saidNights_a : Nat) (z_saidWants_a : Nat) (z_saidMany_a : Nat) (z_now_a : Nat) (z_gave_a : Nat) (z_at_a : Nat) (z_way_a : Nat) (z_bestWay_a : Nat) (z_made_a : Nat) (z_people : Int32) (z_known : Int32) (z_toldMany : Int32) (z_trace : Int64) (z_texted : Int32) (z_cursor : Int32) (z_start : Int32) (z_token : Int32) (z_number : Int32) (z_isWrong : Int32) (z_items : Int32) (z_saidPeople : Int32) (z_saidLaw : Int32) (z_ringed : Int32) (z_lumps : Int32) (z_st : Nat → Int32) (z_was : Nat → Int32) (x1 : Int32) {ρ : Type} (N : Nat) (k : Int32 → Int32 → (Nat → Int32) → (Nat → Int32) → Option ρ) (res : ρ) (h : f_X8_laws N z_known z_st z_was x1 k = some res) : Ci l yX8_laws (WS yX8_laws cX8_laws 3 (some .int)) rm_X8_laws (dC, dI) (tysG cI cZ cQ cW) E0 [.ref z_o, .int x1] (w_X8_laws cI cZ cQ cW z_o z_weight_a z_wants_a z_wantsMany_a z_st_a z_was_a z_images_a z_isKept_a z_told_a z_text_a z_saidWeight_a z_saidNights_a z_saidWants_a z_saidMany_a z_now_a z_gave_a z_at_a z_way_a z_bestWay_a z_made_a z_people z_known z_toldMany z_trace z_texted z_cursor z_start z_token z_number z_isWrong z_items z_saidPeople z_saidLaw z_ringed z_lumps z_st z_was) (fun (u : Int32 × (Nat → Int32) × (Nat → Int32)) => (w_X8_laws cI cZ cQ cW z_o z_weight_a z_wants_a z_wantsMany_a z_st_a z_was_a z_images_a z_isKept_a z_told_a z_text_a z_saidWeight_a z_saidNights_a z_saidWants_a z_saidMany_a z_now_a z_gave_a z_at_a z_way_a z_bestWay_a z_made_a z_people u.1 z_toldMany z_trace z_texted z_cursor z_start z_token z_number z_isWrong z_items z_saidPeople z_saidLaw z_ringed z_lumps u.2.1 u.2.2)) (fun r u => k r u.1 u.2.1 u.2.2 = some res) := by
  refine Ci.of (cc := cX8_laws) (n := 3) (by decide +kernel) (Nat.le_of_ble_eq_true rfl) ?_
  intro p e s m args below meth c A ls Q B hW hE hS hl hQ
  have hx := B.1
  have hb := B.2.1
  have hl : lv_has ls 3 [(0, .ref z_o), (1, .int x1)] := hl
  unfold f_X8_laws at h
  refine lv_iload_n (pc := 0) hx hb (tb_at tk_X8_laws 0 rfl) rfl (lv_at hl 1 rfl) ?_
  refine lv_iconst (pc := 1) (v := 0) hx hb (tb_at tk_X8_laws 1 rfl) (by decide) ?_
  refine lv_iconst (pc := 2) (v := 2) hx hb (tb_at tk_X8_laws 2 rfl) (by decide) ?_
  refine k_call0 (pc := 3) B (k_runSi (rest := []) (host := "") B (c_X8_in l dC dI cI cZ cQ cW   x1 0 2 N _ res h) E0_st (fun _ _ _ => trivial) q_c_X8_in q_m_X8_72 q_t_X8_in q_n_X8 hd_X8_in ⟨rfl, rfl⟩ ⟨Nat.le_of_ble_eq_true rfl, Nat.le_of_ble_eq_true rfl⟩ hW [] rfl (by decide +kernel) rfl hl.1 rfl (Nat.le_of_ble_eq_true rfl) (tb_at tk_X8_laws 3 rfl) ⟨Nat.zero_le _, Nat.zero_le _⟩) hW hS (fun r3 u H locs h hW hS => ?_)
  refine lv_if_ne (pc := 6) (tgt := 11) hx hb (tb_at tk_X8_laws 4 rfl) (by decide) (fun cc => ?_) (fun cc => ?_)
  · have h := it_f cc h
    refine lv_aload_n (pc := 11) hx hb (tb_at tk_X8_laws 7 rfl) rfl (lv_at hl 0 rfl) ?_
    refine k_get (pc := 12) (v := .ref z_st_a) (T := TX8) B inG8 hW 0 rfl rfl 4 (by decide) q_f_X8_19 rfl rfl (tb_at tk_X8_laws 8 rfl) ?_
    refine lv_bipush (pc := 15) (v := 24) hx hb (tb_at tk_X8_laws 9 rfl) (by decide) ?_
    have ii := ivi_in (ck_l h)
    have h := ck_r h
    refine k_iald (pc := 17) B hW 1 0 rfl rfl ii (tb_at tk_X8_laws 10 rfl) ?_
    refine lv_istore_n (pc := 18) (lv' := [(2, .int (z_st ((24 : Int32)).toNatClampNeg)), (0, .ref z_o), (1, .int x1)]) hx hb (tb_at tk_X8_laws 11 rfl) rfl hl (by decide) rfl (fun ls hl => ?_)
    refine lv_iload_n (pc := 19) hx hb (tb_at tk_X8_laws 12 rfl) rfl (lv_at hl 0 rfl) ?_
    refine lv_iload_n (pc := 20) hx hb (tb_at tk_X8_laws 13 rfl) rfl (lv_at hl 2 rfl) ?_
    refine lv_icmp_ne (pc := 21) (tgt := 27) hx hb (tb_at tk_X8_laws 14 rfl) (by decide) (fun cc => ?_) (fun cc => ?_)
    · have h := it_f cc h
      refine lv_aload_n (pc := 27) hx hb (tb_at tk_X8_laws 17 rfl) rfl (lv_at hl 1 rfl) ?_
      refine k_callv (pc := 28) B (k_runVv (rest := []) (C := RX8) B (c_X8_remembers l dC dI cI cZ cQ cW z_o z_weight_a z_wants_a z_wantsMany_a z_st_a z_was_a z_images_a z_isKept_a z_told_a z_text_a z_saidWeight_a z_saidNights_a z_saidWants_a z_saidMany_a z_now_a z_gave_a z_at_a z_way_a z_bestWay_a z_made_a z_people z_known z_toldMany z_trace z_texted z_cursor z_start z_token z_number z_isWrong z_items z_saidPeople z_saidLaw z_ringed z_lumps z_was z_st  N _ res h) E0_st (fun _ _ _ => trivial) q_c_X8_remembers q_m_X8_175 q_i_X8_remembers q_s_X8_remembers q_n_X8 hd_X8_remembers ⟨rfl, rfl⟩ ⟨Nat.le_of_ble_eq_true rfl, Nat.le_of_ble_eq_true rfl⟩ hW [0, 2, 1] rfl (by decide +kernel) (q0 := 0) (ci := 8) rfl rfl rfl hl.1 rfl (Nat.le_of_ble_eq_true rfl) (tb_at tk_X8_laws 18 rfl) ⟨Nat.zero_le _, Nat.zero_le _⟩) hW hS [0, 2, 1] rfl [z_o, z_was_a, z_st_a] rfl (fun _ => rfl) [some 0, some 2, some 1] (by decide +kernel) (fun u => (w_X8_laws cI cZ cQ cW z_o z_weight_a z_wants_a z_wantsMany_a z_st_a z_was_a z_images_a z_isKept_a z_told_a z_text_a z_saidWeight_a z_saidNights_a z_saidWants_a z_saidMany_a z_now_a z_gave_a z_at_a z_way_a z_bestWay_a z_made_a z_people u.1 z_toldMany z_trace z_texted z_cursor z_start z_token z_number z_isWrong z_items z_saidPeople z_saidLaw z_ringed z_lumps z_st u.2)) (fun _ => rfl) (fun u H locs h hW hS => ?_)
      obtain ⟨z_known_28, z_was_28⟩ := u
      dsimp only at h
      have hW : PD (dC, dI) A (w_X8_laws cI cZ cQ cW z_o z_weight_a z_wants_a z_wantsMany_a z_st_a z_was_a z_images_a z_isKept_a z_told_a z_text_a z_saidWeight_a z_saidNights_a z_saidWants_a z_saidMany_a z_now_a z_gave_a z_at_a z_way_a z_bestWay_a z_made_a z_people z_known_28 z_toldMany z_trace z_texted z_cursor z_start z_token z_number z_isWrong z_items z_saidPeople z_saidLaw z_ringed z_lumps z_st z_was_28) H := hW
      refine lv_aload_n (pc := 31) hx hb (tb_at tk_X8_laws 19 rfl) rfl (lv_at hl 1 rfl) ?_
      refine k_get (pc := 32) (v := .ref z_st_a) (T := TX8) B inG8 hW 0 rfl rfl 4 (by decide) q_f_X8_19 rfl rfl (tb_at tk_X8_laws 20 rfl) ?_
      refine lv_bipush (pc := 35) (v := 24) hx hb (tb_at tk_X8_laws 21 rfl) (by decide) ?_
      refine lv_iload_n (pc := 37) hx hb (tb_at tk_X8_laws 22 rfl) rfl (lv_at hl 2 rfl) ?_
      have ii := ivi_in (ck_l h)
      have h := ck_r h
      refine k_iast (pc := 38) B hW hS 1 0 rfl rfl ii (tb_at tk_X8_laws 23 rfl) (w_X8_laws cI cZ cQ cW z_o z_weight_a z_wants_a z_wantsMany_a z_st_a z_was_a z_images_a z_isKept_a z_told_a z_text_a z_saidWeight_a z_saidNights_a z_saidWants_a z_saidMany_a z_now_a z_gave_a z_at_a z_way_a z_bestWay_a z_made_a z_people z_known_28 z_toldMany z_trace z_texted z_cursor z_start z_token z_number z_isWrong z_items z_saidPeople z_saidLaw z_ringed z_lumps (upd z_st ((24 : Int32)).toNatClampNeg x1) z_was_28) rfl (fun H locs hW hS => ?_)
      refine lv_iload_n (pc := 39) hx hb (tb_at tk_X8_laws 24 rfl) rfl (lv_at hl 0 rfl) ?_
      exact hQ (z_st ((24 : Int32)).toNatClampNeg) (z_known_28, upd z_st ((24 : Int32)).toNatClampNeg x1, z_was_28) _ _ _ 40 rfl h hW hS (tb_at tk_X8_laws 25 rfl)
    · have h := it_t cc h
      refine lv_bipush (pc := 24) (v := (-2)) hx hb (tb_at tk_X8_laws 15 rfl) (by decide) ?_
      exact hQ (-2) (z_known, z_st, z_was) _ _ _ 26 rfl h hW hS (tb_at tk_X8_laws 16 rfl)
  · have h := it_t cc h
    refine lv_iconst (pc := 9) (v := (-1)) hx hb (tb_at tk_X8_laws 5 rfl) (by decide) ?_
    exact hQ (-1) (z_known, z_st, z_was) _ _ _ 10 rfl h hW hS (tb_at tk_X8_laws 6 rfl)
def f_X8_undo {ρ : Type} (N : Nat) (z_known : Int32) (z_was : Nat → Int32) (z_st : Nat → Int32) (k : Int32 → Int32 → (Nat → Int32) → Option ρ) : Option ρ := if z_known = 0 then (k (-2) z_known z_st) else (f_X8_copy N z_was z_st 250 25 0 ((25 : Int32) * (z_known - 1)) (fun z_st_36 => k (z_known - 1) (z_known - 1) z_st_36))
abbrev w_X8_undo (cI cZ cQ cW : ClassId) (z_o : Nat) (z_weight_a : Nat) (z_wants_a : Nat) (z_wantsMany_a : Nat) (z_st_a : Nat) (z_was_a : Nat) (z_images_a : Nat) (z_isKept_a : Nat) (z_told_a : Nat) (z_text_a : Nat) (z_saidWeight_a : Nat) (z_saidNights_a : Nat) (z_saidWants_a : Nat) (z_saidMany_a : Nat) (z_now_a : Nat) (z_gave_a : Nat) (z_at_a : Nat) (z_way_a : Nat) (z_bestWay_a : Nat) (z_made_a : Nat) (z_people : Int32) (z_known : Int32) (z_toldMany : Int32) (z_trace : Int64) (z_texted : Int32) (z_cursor : Int32) (z_start : Int32) (z_token : Int32) (z_number : Int32) (z_isWrong : Int32) (z_items : Int32) (z_saidPeople : Int32) (z_saidLaw : Int32) (z_ringed : Int32) (z_lumps : Int32) (z_was : Nat → Int32) (z_st : Nat → Int32) : va_W := [(z_o, .inr (8, [.int z_people, .ref z_weight_a, .ref z_wants_a, .ref z_wantsMany_a, .ref z_st_a, .ref z_was_a, .int z_known, .ref z_images_a, .ref z_isKept_a, .int z_toldMany, .ref z_told_a, .long z_trace, .ref z_text_a, .int z_texted, .int z_cursor, .int z_start, .int z_token, .int z_number, .int z_isWrong, .int z_items, .int z_saidPeople, .ref z_saidWeight_a, .ref z_saidNights_a, .ref z_saidWants_a, .ref z_saidMany_a, .int z_saidLaw, .ref z_now_a, .ref z_gave_a, .ref z_at_a, .int z_ringed, .int z_lumps, .ref z_way_a, .ref z_bestWay_a, .ref z_made_a])), (z_was_a, .inl (cI, 250, .inl z_was)), (z_st_a, .inl (cI, 25, .inl z_st))]
abbrev rm_X8_undo : Room := { frames := 1, cells := 0, slots := 0, locals := 24 }
set_option maxHeartbeats 4000000 in
set_option maxRecDepth 100000 in
theorem c_X8_undo (l : Launch) (dC : Nat → ClassId) (dI : Nat → Nat → Nat) (cI cZ cQ cW : ClassId) (z_o : Nat) (z_weight_a : Nat) (z_wants_a : Nat) (z_wantsMany_a : Nat) (z_st_a : Nat) (z_was_a : Nat) (z_images_a : Nat) (z_isKept_a : Nat) (z_told_a : Nat) (z_text_a : Nat) (z_saidWeight_a : Nat) (z_saidNights_a : Nat) (z_saidWants_a : Nat) (z_saidMany_a : Nat) (z_now_a : Nat) (z_gave_a : Nat) (z_at_a : Nat) (z_way_a : Nat) (z_bestWay_a : Nat) (z_made_a : Nat) (z_people : Int32) (z_known : Int32) (z_toldMany : Int32) (z_trace : Int64) (z_texted : Int32) (z_cursor : Int32) (z_start : Int32) (z_token : Int32) (z_number : Int32) (z_isWrong : Int32) (z_items : Int32) (z_saidPeople : Int32) (z_saidLaw : Int32) (z_ringed : Int32) (z_lumps : Int32) (z_was : Nat → Int32) (z_st : Nat → Int32) {ρ : Type} (N : Nat) (k : Int32 → Int32 → (Nat → Int32) → Option ρ) (res : ρ) (h : f_X8_undo N z_known z_was z_st k = some res) : Ci l yX8_undo (WS yX8_undo cX8_undo 1 (some .int)) rm_X8_undo (dC, dI) (tysG cI cZ cQ cW) E0 [.ref z_o] (w_X8_undo cI cZ cQ cW z_o z_weight_a z_wants_a z_wantsMany_a z_st_a z_was_a z_images_a z_isKept_a z_told_a z_text_a z_saidWeight_a z_saidNights_a z_saidWants_a z_saidMany_a z_now_a z_gave_a z_at_a z_way_a z_bestWay_a z_made_a z_people z_known z_toldMany z_trace z_texted z_cursor z_start z_token z_number z_isWrong z_items z_saidPeople z_saidLaw z_ringed z_lumps z_was z_st) (fun (u : Int32 × (Nat → Int32)) => (w_X8_undo cI cZ cQ cW z_o z_weight_a z_wants_a z_wantsMany_a z_st_a z_was_a z_images_a z_isKept_a z_told_a z_text_a z_saidWeight_a z_saidNights_a z_saidWants_a z_saidMany_a z_now_a z_gave_a z_at_a z_way_a z_bestWay_a z_made_a z_people u.1 z_toldMany z_trace z_texted z_cursor z_start z_token z_number z_isWrong z_items z_saidPeople z_saidLaw z_ringed z_lumps z_was u.2)) (fun r u => k r u.1 u.2 = some res) := by
  refine Ci.of (cc := cX8_undo) (n := 1) (by decide +kernel) (Nat.le_of_ble_eq_true rfl) ?_
  intro p e s m args below meth c A ls Q B hW hE hS hl hQ
  have hx := B.1
  have hb := B.2.1
  have hl : lv_has ls 1 [(0, .ref z_o)] := hl
  unfold f_X8_undo at h
  refine lv_aload_n (pc := 0) hx hb (tb_at tk_X8_undo 0 rfl) rfl (lv_at hl 0 rfl) ?_
  refine k_get (pc := 1) (v := .int z_known) (T := TX8) B inG8 hW 0 rfl rfl 6 (by decide) q_f_X8_135 rfl rfl (tb_at tk_X8_undo 1 rfl) ?_
  refine lv_if_ne (pc := 4) (tgt := 10) hx hb (tb_at tk_X8_undo 2 rfl) (by decide) (fun cc => ?_) (fun cc => ?_)
  · have h := it_f cc h
    refine lv_aload_n (pc := 10) hx hb (tb_at tk_X8_undo 5 rfl) rfl (lv_at hl 0 rfl) ?_
    refine lv_dup (pc := 11) hx hb (tb_at tk_X8_undo 6 rfl) rfl ?_
    refine k_get (pc := 12) (v := .int z_known) (T := TX8) B inG8 hW 0 rfl rfl 6 (by decide) q_f_X8_135 rfl rfl (tb_at tk_X8_undo 7 rfl) ?_
    refine lv_iconst (pc := 15) (v := 1) hx hb (tb_at tk_X8_undo 8 rfl) (by decide) ?_
    refine lv_isub (pc := 16) hx hb (tb_at tk_X8_undo 9 rfl) ?_
    refine k_put (pc := 17) (T := TX8) B inG8 tyX8 tyX8_ok nmX8 hW hS 0 rfl rfl 6 (by decide) q_f_X8_135 rfl rfl rfl rfl (Nat.le_of_ble_eq_true rfl) (tb_at tk_X8_undo 10 rfl) (w_X8_undo cI cZ cQ cW z_o z_weight_a z_wants_a z_wantsMany_a z_st_a z_was_a z_images_a z_isKept_a z_told_a z_text_a z_saidWeight_a z_saidNights_a z_saidWants_a z_saidMany_a z_now_a z_gave_a z_at_a z_way_a z_bestWay_a z_made_a z_people (z_known - 1) z_toldMany z_trace z_texted z_cursor z_start z_token z_number z_isWrong z_items z_saidPeople z_saidLaw z_ringed z_lumps z_was z_st) rfl (fun H locs hW hS => ?_)
    refine lv_aload_n (pc := 20) hx hb (tb_at tk_X8_undo 11 rfl) rfl (lv_at hl 0 rfl) ?_
    refine k_get (pc := 21) (v := .ref z_st_a) (T := TX8) B inG8 hW 0 rfl rfl 4 (by decide) q_f_X8_19 rfl rfl (tb_at tk_X8_undo 12 rfl) ?_
    refine lv_iconst (pc := 24) (v := 0) hx hb (tb_at tk_X8_undo 13 rfl) (by decide) ?_
    refine lv_aload_n (pc := 25) hx hb (tb_at tk_X8_undo 14 rfl) rfl (lv_at hl 0 rfl) ?_
    refine k_get (pc := 26) (v := .ref z_was_a) (T := TX8) B inG8 hW 0 rfl rfl 5 (by decide) q_f_X8_22 rfl rfl (tb_at tk_X8_undo 15 rfl) ?_
    refine lv_bipush (pc := 29) (v := 25) hx hb (tb_at tk_X8_undo 16 rfl) (by decide) ?_
    refine lv_aload_n (pc := 31) hx hb (tb_at tk_X8_undo 17 rfl) rfl (lv_at hl 0 rfl) ?_
    refine k_get (pc := 32) (v := .int (z_known - 1)) (T := TX8) B inG8 hW 0 rfl rfl 6 (by decide) q_f_X8_135 rfl rfl (tb_at tk_X8_undo 18 rfl) ?_
    refine lv_imul (pc := 35) hx hb (tb_at tk_X8_undo 19 rfl) ?_
    refine k_callv (pc := 36) B (k_runSv (rest := []) (host := "") B (c_X8_copy l dC dI cI cZ cQ cW z_was_a 250 z_st_a 25 z_was z_st 0 ((25 : Int32) * (z_known - 1)) N _ res h) E0_st (fun _ _ _ => trivial) q_c_X8_copy q_m_X8_141 q_t_X8_copy q_n_X8 hd_X8_copy ⟨rfl, rfl⟩ ⟨Nat.le_of_ble_eq_true rfl, Nat.le_of_ble_eq_true rfl⟩ hW [1, 2] rfl (by decide +kernel) rfl hl.1 rfl (Nat.le_of_ble_eq_true rfl) (tb_at tk_X8_undo 20 rfl) ⟨Nat.zero_le _, Nat.zero_le _⟩) hW hS [1, 2] rfl [z_was_a, z_st_a] rfl (fun _ => rfl) [none, some 0, some 1] (by decide +kernel) (fun u => (w_X8_undo cI cZ cQ cW z_o z_weight_a z_wants_a z_wantsMany_a z_st_a z_was_a z_images_a z_isKept_a z_told_a z_text_a z_saidWeight_a z_saidNights_a z_saidWants_a z_saidMany_a z_now_a z_gave_a z_at_a z_way_a z_bestWay_a z_made_a z_people (z_known - 1) z_toldMany z_trace z_texted z_cursor z_start z_token z_number z_isWrong z_items z_saidPeople z_saidLaw z_ringed z_lumps z_was u)) (fun _ => rfl) (fun u H locs h hW hS => ?_)
    obtain ⟨z_st_36, rfl⟩ : ∃ z9, z9 = u := ⟨_, rfl⟩
    have hW : PD (dC, dI) A (w_X8_undo cI cZ cQ cW z_o z_weight_a z_wants_a z_wantsMany_a z_st_a z_was_a z_images_a z_isKept_a z_told_a z_text_a z_saidWeight_a z_saidNights_a z_saidWants_a z_saidMany_a z_now_a z_gave_a z_at_a z_way_a z_bestWay_a z_made_a z_people (z_known - 1) z_toldMany z_trace z_texted z_cursor z_start z_token z_number z_isWrong z_items z_saidPeople z_saidLaw z_ringed z_lumps z_was z_st_36) H := hW
    refine lv_aload_n (pc := 39) hx hb (tb_at tk_X8_undo 21 rfl) rfl (lv_at hl 0 rfl) ?_
    refine k_get (pc := 40) (v := .int (z_known - 1)) (T := TX8) B inG8 hW 0 rfl rfl 6 (by decide) q_f_X8_135 rfl rfl (tb_at tk_X8_undo 22 rfl) ?_
    exact hQ (z_known - 1) (z_known - 1, z_st_36) _ _ _ 43 rfl h hW hS (tb_at tk_X8_undo 23 rfl)
  · have h := it_t cc h
    refine lv_bipush (pc := 7) (v := (-2)) hx hb (tb_at tk_X8_undo 3 rfl) (by decide) ?_
    exact hQ (-2) (z_known, z_st) _ _ _ 9 rfl h hW hS (tb_at tk_X8_undo 4 rfl)
def f_X8_would {ρ : Type} (N : Nat) (z_people : Int32) (z_ringed : Int32) (z_lumps : Int32) (z_st : Nat → Int32) (z_now : Nat → Int32) (z_gave : Nat → Int32) (z_wantsMany : Nat → Int32) (z_wants : Nat → Int32) (z_weight : Nat → Int32) (z_at : Nat → Int32) (x1 : Int32) (k : Int32 → Int32 → Int32 → (Nat → Int32) → (Nat → Int32) → (Nat → Int32) → Option ρ) : Option ρ := f_X8_isPerson N z_people x1 (fun r2 => if r2 = 0 then (k (-1) z_ringed z_lumps z_now z_gave z_at) else (ck (ivi (12 : Int32) 25) (f_X8_has N (z_st ((12 : Int32)).toNatClampNeg) x1 (fun r18 => if r18 = 0 then (k (-2) z_ringed z_lumps z_now z_gave z_at) else (f_X8_asItIs N z_st z_now (fun z_now_28 => ck (ivi (12 : Int32) 25) (ck (ivi (24 : Int32) 25) (f_X8_goesBy N z_people z_now_28 z_gave z_wantsMany z_wants z_weight z_at (z_st ((12 : Int32)).toNatClampNeg) (z_st ((24 : Int32)).toNatClampNeg) (fun z_ringed_46 z_lumps_46 z_now_46 z_gave_46 z_at_46 => ck (ivi ((0 : Int32) + x1) 25) (if (z_now_46 ((0 : Int32) + x1).toNatClampNeg) = 6 then (k (-9) z_ringed_46 z_lumps_46 z_now_46 z_gave_46 z_at_46) else (ck (ivi ((0 : Int32) + x1) 25) (k (z_now_46 ((0 : Int32) + x1).toNatClampNeg) z_ringed_46 z_lumps_46 z_now_46 z_gave_46 z_at_46))))))))))))
abbrev w_X8_would (cI cZ cQ cW : ClassId) (z_o : Nat) (z_weight_a : Nat) (z_wants_a : Nat) (z_wantsMany_a : Nat) (z_st_a : Nat) (z_was_a : Nat) (z_images_a : Nat) (z_isKept_a : Nat) (z_told_a : Nat) (z_text_a : Nat) (z_saidWeight_a : Nat) (z_saidNights_a : Nat) (z_saidWants_a : Nat) (z_saidMany_a : Nat) (z_now_a : Nat) (z_gave_a : Nat) (z_at_a : Nat) (z_way_a : Nat) (z_bestWay_a : Nat) (z_made_a : Nat) (z_people : Int32) (z_known : Int32) (z_toldMany : Int32) (z_trace : Int64) (z_texted : Int32) (z_cursor : Int32) (z_start : Int32) (z_token : Int32) (z_number : Int32) (z_isWrong : Int32) (z_items : Int32) (z_saidPeople : Int32) (z_saidLaw : Int32) (z_ringed : Int32) (z_lumps : Int32) (z_st : Nat → Int32) (z_now : Nat → Int32) (z_gave : Nat → Int32) (z_wantsMany : Nat → Int32) (z_wants : Nat → Int32) (z_weight : Nat → Int32) (z_at : Nat → Int32) : va_W := [(z_o, .inr (8, [.int z_people, .ref z_weight_a, .ref z_wants_a, .ref z_wantsMany_a, .ref z_st_a, .ref z_was_a, .int z_known, .ref z_images_a, .ref z_isKept_a, .int z_toldMany, .ref z_told_a, .long z_trace, .ref z_text_a, .int z_texted, .int z_cursor, .int z_start, .int z_token, .int z_number, .int z_isWrong, .int z_items, .int z_saidPeople, .ref z_saidWeight_a, .ref z_saidNights_a, .ref z_saidWants_a, .ref z_saidMany_a, .int z_saidLaw, .ref z_now_a, .ref z_gave_a, .ref z_at_a, .int z_ringed, .int z_lumps, .ref z_way_a, .ref z_bestWay_a, .ref z_made_a])), (z_st_a, .inl (cI, 25, .inl z_st)), (z_now_a, .inl (cI, 25, .inl z_now)), (z_gave_a, .inl (cI, 6, .inl z_gave)), (z_wantsMany_a, .inl (cI, 6, .inl z_wantsMany)), (z_wants_a, .inl (cI, 24, .inl z_wants)), (z_weight_a, .inl (cI, 6, .inl z_weight)), (z_at_a, .inl (cI, 6, .inl z_at))]
abbrev rm_X8_would : Room := { frames := 4, cells := 0, slots := 0, locals := 101 }
set_option maxHeartbeats 4000000 in
set_option maxRecDepth 100000 in
theorem c_X8_would (l : Launch) (dC : Nat → ClassId) (dI : Nat → Nat → Nat) (cI cZ cQ cW : ClassId) (z_o : Nat) (z_weight_a : Nat) (z_wants_a : Nat) (z_wantsMany_a : Nat) (z_st_a : Nat) (z_was_a : Nat) (z_images_a : Nat) (z_isKept_a : Nat) (z_told_a : Nat) (z_text_a : Nat) (z_saidWeight_a : Nat) (z_saidNights_a : Nat) (z_saidWants_a : Nat) (z_saidMany_a : Nat) (z_now_a : Nat) (z_gave_a : Nat) (z_at_a : Nat) (z_way_a : Nat) (z_bestWay_a : Nat) (z_made_a : Nat) (z_people : Int32) (z_known : Int32) (z_toldMany : Int32) (z_trace : Int64) (z_texted : Int32) (z_cursor : Int32) (z_start : Int32) (z_token : Int32) (z_number : Int32) (z_isWrong : Int32) (z_items : Int32) (z_saidPeople : Int32) (z_saidLaw : Int32) (z_ringed : Int32) (z_lumps : Int32) (z_st : Nat → Int32) (z_now : Nat → Int32) (z_gave : Nat → Int32) (z_wantsMany : Nat → Int32) (z_wants : Nat → Int32) (z_weight : Nat → Int32) (z_at : Nat → Int32) (x1 : Int32) {ρ : Type} (N : Nat) (k : Int32 → Int32 → Int32 → (Nat → Int32) → (Nat → Int32) → (Nat → Int32) → Option ρ) (res : ρ) (h : f_X8_would N z_people z_ringed z_lumps z_st z_now z_gave z_wantsMany z_wants z_weight z_at x1 k = some res) : Ci l yX8_would (WS yX8_would cX8_would 2 (some .int)) rm_X8_would (dC, dI) (tysG cI cZ cQ cW) E0 [.ref z_o, .int x1] (w_X8_would cI cZ cQ cW z_o z_weight_a z_wants_a z_wantsMany_a z_st_a z_was_a z_images_a z_isKept_a z_told_a z_text_a z_saidWeight_a z_saidNights_a z_saidWants_a z_saidMany_a z_now_a z_gave_a z_at_a z_way_a z_bestWay_a z_made_a z_people z_known z_toldMany z_trace z_texted z_cursor z_start z_token z_number z_isWrong z_items z_saidPeople z_saidLaw z_ringed z_lumps z_st z_now z_gave z_wantsMany z_wants z_weight z_at) (fun (u : Int32 × Int32 × (Nat → Int32) × (Nat → Int32) × (Nat → Int32)) => (w_X8_would cI cZ cQ cW z_o z_weight_a z_wants_a z_wantsMany_a z_st_a z_was_a z_images_a z_isKept_a z_told_a z_text_a z_saidWeight_a z_saidNights_a z_saidWants_a z_saidMany_a z_now_a z_gave_a z_at_a z_way_a z_bestWay_a z_made_a z_people z_known z_toldMany z_trace z_texted z_cursor z_start z_token z_number z_isWrong z_items z_saidPeople z_saidLaw u.1 u.2.1 z_st u.2.2.1 u.2.2.2.1 z_wantsMany z_wants z_weight u.2.2.2.2)) (fun r u => k r u.1 u.2.1 u.2.2.1 u.2.2.2.1 u.2.2.2.2 = some res) := by
  refine Ci.of (cc := cX8_would) (n := 2) (by decide +kernel) (Nat.le_of_ble_eq_true rfl) ?_
  intro p e s m args below meth c A ls Q B hW hE hS hl hQ
  have hx := B.1
  have hb := B.2.1
  have hl : lv_has ls 2 [(0, .ref z_o), (1, .int x1)] := hl
  unfold f_X8_would at h
  refine lv_aload_n (pc := 0) hx hb (tb_at tk_X8_would 0 rfl) rfl (lv_at hl 0 rfl) ?_
  refine lv_iload_n (pc := 1) hx hb (tb_at tk_X8_would 1 rfl) rfl (lv_at hl 1 rfl) ?_
  refine k_calli (pc := 2) B (k_runVi (rest := []) (C := RX8) B (c_X8_isPerson l dC dI cI cZ cQ cW z_o z_weight_a z_wants_a z_wantsMany_a z_st_a z_was_a z_images_a z_isKept_a z_told_a z_text_a z_saidWeight_a z_saidNights_a z_saidWants_a z_saidMany_a z_now_a z_gave_a z_at_a z_way_a z_bestWay_a z_made_a z_people z_known z_toldMany z_trace z_texted z_cursor z_start z_token z_number z_isWrong z_items z_saidPeople z_saidLaw z_ringed z_lumps x1 N _ res h) E0_st (fun _ _ _ => trivial) q_c_X8_isPerson q_m_X8_168 q_i_X8_isPerson q_s_X8_isPerson q_n_X8 hd_X8_isPerson ⟨rfl, rfl⟩ ⟨Nat.le_of_ble_eq_true rfl, Nat.le_of_ble_eq_true rfl⟩ hW [0] rfl (by decide +kernel) (q0 := 0) (ci := 8) rfl rfl rfl hl.1 rfl (Nat.le_of_ble_eq_true rfl) (tb_at tk_X8_would 2 rfl) ⟨Nat.zero_le _, Nat.zero_le _⟩) hW hS [0] rfl [z_o] rfl (fun _ => rfl) [some 0, none, none, none, none, none, none, none] (by decide +kernel) (fun _ => (w_X8_would cI cZ cQ cW z_o z_weight_a z_wants_a z_wantsMany_a z_st_a z_was_a z_images_a z_isKept_a z_told_a z_text_a z_saidWeight_a z_saidNights_a z_saidWants_a z_saidMany_a z_now_a z_gave_a z_at_a z_way_a z_bestWay_a z_made_a z_people z_known z_toldMany z_trace z_texted z_cursor z_start z_token z_number z_isWrong z_items z_saidPeople z_saidLaw z_ringed z_lumps z_st z_now z_gave z_wantsMany z_wants z_weight z_at)) (fun _ => rfl) (fun r2 u H locs h hW hS => ?_)
  have hW : PD (dC, dI) A (w_X8_would cI cZ cQ cW z_o z_weight_a z_wants_a z_wantsMany_a z_st_a z_was_a z_images_a z_isKept_a z_told_a z_text_a z_saidWeight_a z_saidNights_a z_saidWants_a z_saidMany_a z_now_a z_gave_a z_at_a z_way_a z_bestWay_a z_made_a z_people z_known z_toldMany z_trace z_texted z_cursor z_start z_token z_number z_isWrong z_items z_saidPeople z_saidLaw z_ringed z_lumps z_st z_now z_gave z_wantsMany z_wants z_weight z_at) H := hW
  refine lv_if_ne (pc := 5) (tgt := 10) hx hb (tb_at tk_X8_would 3 rfl) (by decide) (fun cc => ?_) (fun cc => ?_)
  · have h := it_f cc h
    refine lv_aload_n (pc := 10) hx hb (tb_at tk_X8_would 6 rfl) rfl (lv_at hl 0 rfl) ?_
    refine k_get (pc := 11) (v := .ref z_st_a) (T := TX8) B inG8 hW 0 rfl rfl 4 (by decide) q_f_X8_19 rfl rfl (tb_at tk_X8_would 7 rfl) ?_
    refine lv_bipush (pc := 14) (v := 12) hx hb (tb_at tk_X8_would 8 rfl) (by decide) ?_
    have ii := ivi_in (ck_l h)
    have h := ck_r h
    refine k_iald (pc := 16) B hW 1 0 rfl rfl ii (tb_at tk_X8_would 9 rfl) ?_
    refine lv_iload_n (pc := 17) hx hb (tb_at tk_X8_would 10 rfl) rfl (lv_at hl 1 rfl) ?_
    refine k_call0 (pc := 18) B (k_runSi (rest := []) (host := "") B (c_X8_has l dC dI cI cZ cQ cW   (z_st ((12 : Int32)).toNatClampNeg) x1 N _ res h) E0_st (fun _ _ _ => trivial) q_c_X8_has q_m_X8_113 q_t_X8_has q_n_X8 hd_X8_has ⟨rfl, rfl⟩ ⟨Nat.le_of_ble_eq_true rfl, Nat.le_of_ble_eq_true rfl⟩ hW [] rfl (by decide +kernel) rfl hl.1 rfl (Nat.le_of_ble_eq_true rfl) (tb_at tk_X8_would 11 rfl) ⟨Nat.zero_le _, Nat.zero_le _⟩) hW hS (fun r18 u H locs h hW hS => ?_)
    refine lv_if_ne (pc := 21) (tgt := 27) hx hb (tb_at tk_X8_would 12 rfl) (by decide) (fun cc => ?_) (fun cc => ?_)
    · have h := it_f cc h
      refine lv_aload_n (pc := 27) hx hb (tb_at tk_X8_would 15 rfl) rfl (lv_at hl 0 rfl) ?_
      refine k_callv (pc := 28) B (k_runVv (rest := []) (C := RX8) B (c_X8_asItIs l dC dI cI cZ cQ cW z_o z_weight_a z_wants_a z_wantsMany_a z_st_a z_was_a z_images_a z_isKept_a z_told_a z_text_a z_saidWeight_a z_saidNights_a z_saidWants_a z_saidMany_a z_now_a z_gave_a z_at_a z_way_a z_bestWay_a z_made_a z_people z_known z_toldMany z_trace z_texted z_cursor z_start z_token z_number z_isWrong z_items z_saidPeople z_saidLaw z_ringed z_lumps z_st z_now  N _ res h) E0_st (fun _ _ _ => trivial) q_c_X8_asItIs q_m_X8_181 q_i_X8_asItIs q_s_X8_asItIs q_n_X8 hd_X8_asItIs ⟨rfl, rfl⟩ ⟨Nat.le_of_ble_eq_true rfl, Nat.le_of_ble_eq_true rfl⟩ hW [0, 1, 2] rfl (by decide +kernel) (q0 := 0) (ci := 8) rfl rfl rfl hl.1 rfl (Nat.le_of_ble_eq_true rfl) (tb_at tk_X8_would 16 rfl) ⟨Nat.zero_le _, Nat.zero_le _⟩) hW hS [0, 1, 2] rfl [z_o, z_st_a, z_now_a] rfl (fun _ => rfl) [some 0, some 1, some 2, none, none, none, none, none] (by decide +kernel) (fun u => (w_X8_would cI cZ cQ cW z_o z_weight_a z_wants_a z_wantsMany_a z_st_a z_was_a z_images_a z_isKept_a z_told_a z_text_a z_saidWeight_a z_saidNights_a z_saidWants_a z_saidMany_a z_now_a z_gave_a z_at_a z_way_a z_bestWay_a z_made_a z_people z_known z_toldMany z_trace z_texted z_cursor z_start z_token z_number z_isWrong z_items z_saidPeople z_saidLaw z_ringed z_lumps z_st u z_gave z_wantsMany z_wants z_weight z_at)) (fun _ => rfl) (fun u H locs h hW hS => ?_)
      obtain ⟨z_now_28, rfl⟩ : ∃ z9, z9 = u := ⟨_, rfl⟩
      have hW : PD (dC, dI) A (w_X8_would cI cZ cQ cW z_o z_weight_a z_wants_a z_wantsMany_a z_st_a z_was_a z_images_a z_isKept_a z_told_a z_text_a z_saidWeight_a z_saidNights_a z_saidWants_a z_saidMany_a z_now_a z_gave_a z_at_a z_way_a z_bestWay_a z_made_a z_people z_known z_toldMany z_trace z_texted z_cursor z_start z_token z_number z_isWrong z_items z_saidPeople z_saidLaw z_ringed z_lumps z_st z_now_28 z_gave z_wantsMany z_wants z_weight z_at) H := hW
      refine lv_aload_n (pc := 31) hx hb (tb_at tk_X8_would 17 rfl) rfl (lv_at hl 0 rfl) ?_
      refine lv_aload_n (pc := 32) hx hb (tb_at tk_X8_would 18 rfl) rfl (lv_at hl 0 rfl) ?_
      refine k_get (pc := 33) (v := .ref z_st_a) (T := TX8) B inG8 hW 0 rfl rfl 4 (by decide) q_f_X8_19 rfl rfl (tb_at tk_X8_would 19 rfl) ?_
      refine lv_bipush (pc := 36) (v := 12) hx hb (tb_at tk_X8_would 20 rfl) (by decide) ?_
      have ii := ivi_in (ck_l h)
      have h := ck_r h
      refine k_iald (pc := 38) B hW 1 0 rfl rfl ii (tb_at tk_X8_would 21 rfl) ?_
      refine lv_aload_n (pc := 39) hx hb (tb_at tk_X8_would 22 rfl) rfl (lv_at hl 0 rfl) ?_
      refine k_get (pc := 40) (v := .ref z_st_a) (T := TX8) B inG8 hW 0 rfl rfl 4 (by decide) q_f_X8_19 rfl rfl (tb_at tk_X8_would 23 rfl) ?_
      refine lv_bipush (pc := 43) (v := 24) hx hb (tb_at tk_X8_would 24 rfl) (by decide) ?_
      have ii := ivi_in (ck_l h)
      have h := ck_r h
      refine k_iald (pc := 45) B hW 1 0 rfl rfl ii (tb_at tk_X8_would 25 rfl) ?_
      refine k_callv (pc := 46) B (k_runVv (rest := []) (C := RX8) B (c_X8_goesBy l dC dI cI cZ cQ cW z_o z_weight_a z_wants_a z_wantsMany_a z_st_a z_was_a z_images_a z_isKept_a z_told_a z_text_a z_saidWeight_a z_saidNights_a z_saidWants_a z_saidMany_a z_now_a z_gave_a z_at_a z_way_a z_bestWay_a z_made_a z_people z_known z_toldMany z_trace z_texted z_cursor z_start z_token z_number z_isWrong z_items z_saidPeople z_saidLaw z_ringed z_lumps z_now_28 z_gave z_wantsMany z_wants z_weight z_at (z_st ((12 : Int32)).toNatClampNeg) (z_st ((24 : Int32)).toNatClampNeg) N _ res h) E0_st (fun _ _ _ => trivial) q_c_X8_goesBy q_m_X8_184 q_i_X8_goesBy q_s_X8_goesBy q_n_X8 hd_X8_goesBy ⟨rfl, rfl⟩ ⟨Nat.le_of_ble_eq_true rfl, Nat.le_of_ble_eq_true rfl⟩ hW [0, 2, 3, 4, 5, 6, 7] rfl (by decide +kernel) (q0 := 0) (ci := 8) rfl rfl rfl hl.1 rfl (Nat.le_of_ble_eq_true rfl) (tb_at tk_X8_would 26 rfl) ⟨Nat.zero_le _, Nat.zero_le _⟩) hW hS [0, 2, 3, 4, 5, 6, 7] rfl [z_o, z_now_a, z_gave_a, z_wantsMany_a, z_wants_a, z_weight_a, z_at_a] rfl (fun _ => rfl) [some 0, none, some 1, some 2, some 3, some 4, some 5, some 6] (by decide +kernel) (fun u => (w_X8_would cI cZ cQ cW z_o z_weight_a z_wants_a z_wantsMany_a z_st_a z_was_a z_images_a z_isKept_a z_told_a z_text_a z_saidWeight_a z_saidNights_a z_saidWants_a z_saidMany_a z_now_a z_gave_a z_at_a z_way_a z_bestWay_a z_made_a z_people z_known z_toldMany z_trace z_texted z_cursor z_start z_token z_number z_isWrong z_items z_saidPeople z_saidLaw u.1 u.2.1 z_st u.2.2.1 u.2.2.2.1 z_wantsMany z_wants z_weight u.2.2.2.2)) (fun _ => rfl) (fun u H locs h hW hS => ?_)
      obtain ⟨z_ringed_46, z_lumps_46, z_now_46, z_gave_46, z_at_46⟩ := u
      dsimp only at h
      have hW : PD (dC, dI) A (w_X8_would cI cZ cQ cW z_o z_weight_a z_wants_a z_wantsMany_a z_st_a z_was_a z_images_a z_isKept_a z_told_a z_text_a z_saidWeight_a z_saidNights_a z_saidWants_a z_saidMany_a z_now_a z_gave_a z_at_a z_way_a z_bestWay_a z_made_a z_people z_known z_toldMany z_trace z_texted z_cursor z_start z_token z_number z_isWrong z_items z_saidPeople z_saidLaw z_ringed_46 z_lumps_46 z_st z_now_46 z_gave_46 z_wantsMany z_wants z_weight z_at_46) H := hW
      refine lv_aload_n (pc := 49) hx hb (tb_at tk_X8_would 27 rfl) rfl (lv_at hl 0 rfl) ?_
      refine k_get (pc := 50) (v := .ref z_now_a) (T := TX8) B inG8 hW 0 rfl rfl 26 (by decide) q_f_X8_50 rfl rfl (tb_at tk_X8_would 28 rfl) ?_
      refine lv_iconst (pc := 53) (v := 0) hx hb (tb_at tk_X8_would 29 rfl) (by decide) ?_
      refine lv_iload_n (pc := 54) hx hb (tb_at tk_X8_would 30 rfl) rfl (lv_at hl 1 rfl) ?_
      refine lv_iadd (pc := 55) hx hb (tb_at tk_X8_would 31 rfl) ?_
      have ii := ivi_in (ck_l h)
      have h := ck_r h
      refine k_iald (pc := 56) B hW 2 0 rfl rfl ii (tb_at tk_X8_would 32 rfl) ?_
      refine lv_bipush (pc := 57) (v := 6) hx hb (tb_at tk_X8_would 33 rfl) (by decide) ?_
      refine lv_icmp_ne (pc := 59) (tgt := 67) hx hb (tb_at tk_X8_would 34 rfl) (by decide) (fun cc => ?_) (fun cc => ?_)
      · have h := it_f cc h
        refine lv_aload_n (pc := 67) hx hb (tb_at tk_X8_would 37 rfl) rfl (lv_at hl 0 rfl) ?_
        refine k_get (pc := 68) (v := .ref z_now_a) (T := TX8) B inG8 hW 0 rfl rfl 26 (by decide) q_f_X8_50 rfl rfl (tb_at tk_X8_would 38 rfl) ?_
        refine lv_iconst (pc := 71) (v := 0) hx hb (tb_at tk_X8_would 39 rfl) (by decide) ?_
        refine lv_iload_n (pc := 72) hx hb (tb_at tk_X8_would 40 rfl) rfl (lv_at hl 1 rfl) ?_
        refine lv_iadd (pc := 73) hx hb (tb_at tk_X8_would 41 rfl) ?_
        have ii := ivi_in (ck_l h)
        have h := ck_r h
        refine k_iald (pc := 74) B hW 2 0 rfl rfl ii (tb_at tk_X8_would 42 rfl) ?_
        exact hQ (z_now_46 ((0 : Int32) + x1).toNatClampNeg) (z_ringed_46, z_lumps_46, z_now_46, z_gave_46, z_at_46) _ _ _ 75 rfl h hW hS (tb_at tk_X8_would 43 rfl)
      · have h := it_t cc h
        refine lv_bipush (pc := 62) (v := (-9)) hx hb (tb_at tk_X8_would 35 rfl) (by decide) ?_
        refine lv_goto (pc := 64) (tgt := 75) hx hb (tb_at tk_X8_would 36 rfl) (by decide) ?_
        exact hQ (-9) (z_ringed_46, z_lumps_46, z_now_46, z_gave_46, z_at_46) _ _ _ 75 rfl h hW hS (tb_at tk_X8_would 43 rfl)
    · have h := it_t cc h
      refine lv_bipush (pc := 24) (v := (-2)) hx hb (tb_at tk_X8_would 13 rfl) (by decide) ?_
      exact hQ (-2) (z_ringed, z_lumps, z_now, z_gave, z_at) _ _ _ 26 rfl h hW hS (tb_at tk_X8_would 14 rfl)
  · have h := it_t cc h
    refine lv_iconst (pc := 8) (v := (-1)) hx hb (tb_at tk_X8_would 4 rfl) (by decide) ?_
    exact hQ (-1) (z_ringed, z_lumps, z_now, z_gave, z_at) _ _ _ 9 rfl h hW hS (tb_at tk_X8_would 5 rfl)
def f_X8_served {ρ : Type} (N : Nat) (z_people : Int32) (z_ringed : Int32) (z_lumps : Int32) (z_st : Nat → Int32) (z_now : Nat → Int32) (z_gave : Nat → Int32) (z_wantsMany : Nat → Int32) (z_wants : Nat → Int32) (z_weight : Nat → Int32) (z_at : Nat → Int32) (x1 : Int32) (k : Int32 → Int32 → Int32 → (Nat → Int32) → (Nat → Int32) → (Nat → Int32) → Option ρ) : Option ρ := f_X8_all N z_people (fun r3 => f_X8_in N x1 0 r3 (fun r6 => if r6 = 0 then (k (-1) z_ringed z_lumps z_now z_gave z_at) else (f_X8_able N z_people z_st (fun r16 => if (x1 &&& (r16 ^^^ (-1))) = 0 then (f_X8_asItIs N z_st z_now (fun z_now_29 => ck (ivi (24 : Int32) 25) (f_X8_goesBy N z_people z_now_29 z_gave z_wantsMany z_wants z_weight z_at x1 (z_st ((24 : Int32)).toNatClampNeg) (fun z_ringed_41 z_lumps_41 z_now_41 z_gave_41 z_at_41 => f_X8_bits N z_ringed_41 (fun r48 => k r48 z_ringed_41 z_lumps_41 z_now_41 z_gave_41 z_at_41))))) else (k (-2) z_ringed z_lumps z_now z_gave z_at)))))
abbrev w_X8_served (cI cZ cQ cW : ClassId) (z_o : Nat) (z_weight_a : Nat) (z_wants_a : Nat) (z_wantsMany_a : Nat) (z_st_a : Nat) (z_was_a : Nat) (z_images_a : Nat) (z_isKept_a : Nat) (z_told_a : Nat) (z_text_a : Nat) (z_saidWeight_a : Nat) (z_saidNights_a : Nat) (z_saidWants_a : Nat) (z_saidMany_a : Nat) (z_now_a : Nat) (z_gave_a : Nat) (z_at_a : Nat) (z_way_a : Nat) (z_bestWay_a : Nat) (z_made_a : Nat) (z_people : Int32) (z_known : Int32) (z_toldMany : Int32) (z_trace : Int64) (z_texted : Int32) (z_cursor : Int32) (z_start : Int32) (z_token : Int32) (z_number : Int32) (z_isWrong : Int32) (z_items : Int32) (z_saidPeople : Int32) (z_saidLaw : Int32) (z_ringed : Int32) (z_lumps : Int32) (z_st : Nat → Int32) (z_now : Nat → Int32) (z_gave : Nat → Int32) (z_wantsMany : Nat → Int32) (z_wants : Nat → Int32) (z_weight : Nat → Int32) (z_at : Nat → Int32) : va_W := [(z_o, .inr (8, [.int z_people, .ref z_weight_a, .ref z_wants_a, .ref z_wantsMany_a, .ref z_st_a, .ref z_was_a, .int z_known, .ref z_images_a, .ref z_isKept_a, .int z_toldMany, .ref z_told_a, .long z_trace, .ref z_text_a, .int z_texted, .int z_cursor, .int z_start, .int z_token, .int z_number, .int z_isWrong, .int z_items, .int z_saidPeople, .ref z_saidWeight_a, .ref z_saidNights_a, .ref z_saidWants_a, .ref z_saidMany_a, .int z_saidLaw, .ref z_now_a, .ref z_gave_a, .ref z_at_a, .int z_ringed, .int z_lumps, .ref z_way_a, .ref z_bestWay_a, .ref z_made_a])), (z_st_a, .inl (cI, 25, .inl z_st)), (z_now_a, .inl (cI, 25, .inl z_now)), (z_gave_a, .inl (cI, 6, .inl z_gave)), (z_wantsMany_a, .inl (cI, 6, .inl z_wantsMany)), (z_wants_a, .inl (cI, 24, .inl z_wants)), (z_weight_a, .inl (cI, 6, .inl z_weight)), (z_at_a, .inl (cI, 6, .inl z_at))]
abbrev rm_X8_served : Room := { frames := 4, cells := 0, slots := 0, locals := 101 }
set_option maxHeartbeats 4000000 in
set_option maxRecDepth 100000 in
theorem c_X8_served (l : Launch) (dC : Nat → ClassId) (dI : Nat → Nat → Nat) (cI cZ cQ cW : ClassId) (z_o : Nat) (z_weight_a : Nat) (z_wants_a : Nat) (z_wantsMany_a : Nat) (z_st_a : Nat) (z_was_a : Nat) (z_images_a : Nat) (z_isKept_a : Nat) (z_told_a : Nat) (z_text_a : Nat) (z_saidWeight_a : Nat) (z_saidNights_a : Nat) (z_saidWants_a : Nat) (z_saidMany_a : Nat) (z_now_a : Nat) (z_gave_a : Nat) (z_at_a : Nat) (z_way_a : Nat) (z_bestWay_a : Nat) (z_made_a : Nat) (z_people : Int32) (z_known : Int32) (z_toldMany : Int32) (z_trace : Int64) (z_texted : Int32) (z_cursor : Int32) (z_start : Int32) (z_token : Int32) (z_number : Int32) (z_isWrong : Int32) (z_items : Int32) (z_saidPeople : Int32) (z_saidLaw : Int32) (z_ringed : Int32) (z_lumps : Int32) (z_st : Nat → Int32) (z_now : Nat → Int32) (z_gave : Nat → Int32) (z_wantsMany : Nat → Int32) (z_wants : Nat → Int32) (z_weight : Nat → Int32) (z_at : Nat → Int32) (x1 : Int32) {ρ : Type} (N : Nat) (k : Int32 → Int32 → Int32 → (Nat → Int32) → (Nat → Int32) → (Nat → Int32) → Option ρ) (res : ρ) (h : f_X8_served N z_people z_ringed z_lumps z_st z_now z_gave z_wantsMany z_wants z_weight z_at x1 k = some res) : Ci l yX8_served (WS yX8_served cX8_served 2 (some .int)) rm_X8_served (dC, dI) (tysG cI cZ cQ cW) E0 [.ref z_o, .int x1] (w_X8_served cI cZ cQ cW z_o z_weight_a z_wants_a z_wantsMany_a z_st_a z_was_a z_images_a z_isKept_a z_told_a z_text_a z_saidWeight_a z_saidNights_a z_saidWants_a z_saidMany_a z_now_a z_gave_a z_at_a z_way_a z_bestWay_a z_made_a z_people z_known z_toldMany z_trace z_texted z_cursor z_start z_token z_number z_isWrong z_items z_saidPeople z_saidLaw z_ringed z_lumps z_st z_now z_gave z_wantsMany z_wants z_weight z_at) (fun (u : Int32 × Int32 × (Nat → Int32) × (Nat → Int32) × (Nat → Int32)) => (w_X8_served cI cZ cQ cW z_o z_weight_a z_wants_a z_wantsMany_a z_st_a z_was_a z_images_a z_isKept_a z_told_a z_text_a z_saidWeight_a z_saidNights_a z_saidWants_a z_saidMany_a z_now_a z_gave_a z_at_a z_way_a z_bestWay_a z_made_a z_people z_known z_toldMany z_trace z_texted z_cursor z_start z_token z_number z_isWrong z_items z_saidPeople z_saidLaw u.1 u.2.1 z_st u.2.2.1 u.2.2.2.1 z_wantsMany z_wants z_weight u.2.2.2.2)) (fun r u => k r u.1 u.2.1 u.2.2.1 u.2.2.2.1 u.2.2.2.2 = some res) := by
  refine Ci.of (cc := cX8_served) (n := 2) (by decide +kernel) (Nat.le_of_ble_eq_true rfl) ?_
  intro p e s m args below meth c A ls Q B hW hE hS hl hQ
  have hx := B.1
  have hb := B.2.1
  have hl : lv_has ls 2 [(0, .ref z_o), (1, .int x1)] := hl
  unfold f_X8_served at h
  refine lv_iload_n (pc := 0) hx hb (tb_at tk_X8_served 0 rfl) rfl (lv_at hl 1 rfl) ?_
  refine lv_iconst (pc := 1) (v := 0) hx hb (tb_at tk_X8_served 1 rfl) (by decide) ?_
  refine lv_aload_n (pc := 2) hx hb (tb_at tk_X8_served 2 rfl) rfl (lv_at hl 0 rfl) ?_
  refine k_calli (pc := 3) B (k_runVi (rest := [.int 0, .int x1]) (C := RX8) B (c_X8_all l dC dI cI cZ cQ cW z_o z_weight_a z_wants_a z_wantsMany_a z_st_a z_was_a z_images_a z_isKept_a z_told_a z_text_a z_saidWeight_a z_saidNights_a z_saidWants_a z_saidMany_a z_now_a z_gave_a z_at_a z_way_a z_bestWay_a z_made_a z_people z_known z_toldMany z_trace z_texted z_cursor z_start z_token z_number z_isWrong z_items z_saidPeople z_saidLaw z_ringed z_lumps  N _ res h) E0_st (fun _ _ _ => trivial) q_c_X8_all q_m_X8_191 q_i_X8_all q_s_X8_all q_n_X8 hd_X8_all ⟨rfl, rfl⟩ ⟨Nat.le_of_ble_eq_true rfl, Nat.le_of_ble_eq_true rfl⟩ hW [0] rfl (by decide +kernel) (q0 := 0) (ci := 8) rfl rfl rfl hl.1 rfl (Nat.le_of_ble_eq_true rfl) (tb_at tk_X8_served 3 rfl) ⟨Nat.zero_le _, Nat.zero_le _⟩) hW hS [0] rfl [z_o] rfl (fun _ => rfl) [some 0, none, none, none, none, none, none, none] (by decide +kernel) (fun _ => (w_X8_served cI cZ cQ cW z_o z_weight_a z_wants_a z_wantsMany_a z_st_a z_was_a z_images_a z_isKept_a z_told_a z_text_a z_saidWeight_a z_saidNights_a z_saidWants_a z_saidMany_a z_now_a z_gave_a z_at_a z_way_a z_bestWay_a z_made_a z_people z_known z_toldMany z_trace z_texted z_cursor z_start z_token z_number z_isWrong z_items z_saidPeople z_saidLaw z_ringed z_lumps z_st z_now z_gave z_wantsMany z_wants z_weight z_at)) (fun _ => rfl) (fun r3 u H locs h hW hS => ?_)
  have hW : PD (dC, dI) A (w_X8_served cI cZ cQ cW z_o z_weight_a z_wants_a z_wantsMany_a z_st_a z_was_a z_images_a z_isKept_a z_told_a z_text_a z_saidWeight_a z_saidNights_a z_saidWants_a z_saidMany_a z_now_a z_gave_a z_at_a z_way_a z_bestWay_a z_made_a z_people z_known z_toldMany z_trace z_texted z_cursor z_start z_token z_number z_isWrong z_items z_saidPeople z_saidLaw z_ringed z_lumps z_st z_now z_gave z_wantsMany z_wants z_weight z_at) H := hW
  refine k_call0 (pc := 6) B (k_runSi (rest := []) (host := "") B (c_X8_in l dC dI cI cZ cQ cW   x1 0 r3 N _ res h) E0_st (fun _ _ _ => trivial) q_c_X8_in q_m_X8_72 q_t_X8_in q_n_X8 hd_X8_in ⟨rfl, rfl⟩ ⟨Nat.le_of_ble_eq_true rfl, Nat.le_of_ble_eq_true rfl⟩ hW [] rfl (by decide +kernel) rfl hl.1 rfl (Nat.le_of_ble_eq_true rfl) (tb_at tk_X8_served 4 rfl) ⟨Nat.zero_le _, Nat.zero_le _⟩) hW hS (fun r6 u H locs h hW hS => ?_)
  refine lv_if_ne (pc := 9) (tgt := 14) hx hb (tb_at tk_X8_served 5 rfl) (by decide) (fun cc => ?_) (fun cc => ?_)
  · have h := it_f cc h
    refine lv_iload_n (pc := 14) hx hb (tb_at tk_X8_served 8 rfl) rfl (lv_at hl 1 rfl) ?_
    refine lv_aload_n (pc := 15) hx hb (tb_at tk_X8_served 9 rfl) rfl (lv_at hl 0 rfl) ?_
    refine k_calli (pc := 16) B (k_runVi (rest := [.int x1]) (C := RX8) B (c_X8_able l dC dI cI cZ cQ cW z_o z_weight_a z_wants_a z_wantsMany_a z_st_a z_was_a z_images_a z_isKept_a z_told_a z_text_a z_saidWeight_a z_saidNights_a z_saidWants_a z_saidMany_a z_now_a z_gave_a z_at_a z_way_a z_bestWay_a z_made_a z_people z_known z_toldMany z_trace z_texted z_cursor z_start z_token z_number z_isWrong z_items z_saidPeople z_saidLaw z_ringed z_lumps z_st  N _ res h) E0_st (fun _ _ _ => trivial) q_c_X8_able q_m_X8_171 q_i_X8_able q_s_X8_able q_n_X8 hd_X8_able ⟨rfl, rfl⟩ ⟨Nat.le_of_ble_eq_true rfl, Nat.le_of_ble_eq_true rfl⟩ hW [0, 1] rfl (by decide +kernel) (q0 := 0) (ci := 8) rfl rfl rfl hl.1 rfl (Nat.le_of_ble_eq_true rfl) (tb_at tk_X8_served 10 rfl) ⟨Nat.zero_le _, Nat.zero_le _⟩) hW hS [0, 1] rfl [z_o, z_st_a] rfl (fun _ => rfl) [some 0, some 1, none, none, none, none, none, none] (by decide +kernel) (fun _ => (w_X8_served cI cZ cQ cW z_o z_weight_a z_wants_a z_wantsMany_a z_st_a z_was_a z_images_a z_isKept_a z_told_a z_text_a z_saidWeight_a z_saidNights_a z_saidWants_a z_saidMany_a z_now_a z_gave_a z_at_a z_way_a z_bestWay_a z_made_a z_people z_known z_toldMany z_trace z_texted z_cursor z_start z_token z_number z_isWrong z_items z_saidPeople z_saidLaw z_ringed z_lumps z_st z_now z_gave z_wantsMany z_wants z_weight z_at)) (fun _ => rfl) (fun r16 u H locs h hW hS => ?_)
    have hW : PD (dC, dI) A (w_X8_served cI cZ cQ cW z_o z_weight_a z_wants_a z_wantsMany_a z_st_a z_was_a z_images_a z_isKept_a z_told_a z_text_a z_saidWeight_a z_saidNights_a z_saidWants_a z_saidMany_a z_now_a z_gave_a z_at_a z_way_a z_bestWay_a z_made_a z_people z_known z_toldMany z_trace z_texted z_cursor z_start z_token z_number z_isWrong z_items z_saidPeople z_saidLaw z_ringed z_lumps z_st z_now z_gave z_wantsMany z_wants z_weight z_at) H := hW
    refine lv_iconst (pc := 19) (v := (-1)) hx hb (tb_at tk_X8_served 11 rfl) (by decide) ?_
    refine lv_ixor (pc := 20) hx hb (tb_at tk_X8_served 12 rfl) ?_
    refine lv_iand (pc := 21) hx hb (tb_at tk_X8_served 13 rfl) ?_
    refine lv_if_eq (pc := 22) (tgt := 28) hx hb (tb_at tk_X8_served 14 rfl) (by decide) (fun cc => ?_) (fun cc => ?_)
    · have h := it_t cc h
      refine lv_aload_n (pc := 28) hx hb (tb_at tk_X8_served 17 rfl) rfl (lv_at hl 0 rfl) ?_
      refine k_callv (pc := 29) B (k_runVv (rest := []) (C := RX8) B (c_X8_asItIs l dC dI cI cZ cQ cW z_o z_weight_a z_wants_a z_wantsMany_a z_st_a z_was_a z_images_a z_isKept_a z_told_a z_text_a z_saidWeight_a z_saidNights_a z_saidWants_a z_saidMany_a z_now_a z_gave_a z_at_a z_way_a z_bestWay_a z_made_a z_people z_known z_toldMany z_trace z_texted z_cursor z_start z_token z_number z_isWrong z_items z_saidPeople z_saidLaw z_ringed z_lumps z_st z_now  N _ res h) E0_st (fun _ _ _ => trivial) q_c_X8_asItIs q_m_X8_181 q_i_X8_asItIs q_s_X8_asItIs q_n_X8 hd_X8_asItIs ⟨rfl, rfl⟩ ⟨Nat.le_of_ble_eq_true rfl, Nat.le_of_ble_eq_true rfl⟩ hW [0, 1, 2] rfl (by decide +kernel) (q0 := 0) (ci := 8) rfl rfl rfl hl.1 rfl (Nat.le_of_ble_eq_true rfl) (tb_at tk_X8_served 18 rfl) ⟨Nat.zero_le _, Nat.zero_le _⟩) hW hS [0, 1, 2] rfl [z_o, z_st_a, z_now_a] rfl (fun _ => rfl) [some 0, some 1, some 2, none, none, none, none, none] (by decide +kernel) (fun u => (w_X8_served cI cZ cQ cW z_o z_weight_a z_wants_a z_wantsMany_a z_st_a z_was_a z_images_a z_isKept_a z_told_a z_text_a z_saidWeight_a z_saidNights_a z_saidWants_a z_saidMany_a z_now_a z_gave_a z_at_a z_way_a z_bestWay_a z_made_a z_people z_known z_toldMany z_trace z_texted z_cursor z_start z_token z_number z_isWrong z_items z_saidPeople z_saidLaw z_ringed z_lumps z_st u z_gave z_wantsMany z_wants z_weight z_at)) (fun _ => rfl) (fun u H locs h hW hS => ?_)
      obtain ⟨z_now_29, rfl⟩ : ∃ z9, z9 = u := ⟨_, rfl⟩
      have hW : PD (dC, dI) A (w_X8_served cI cZ cQ cW z_o z_weight_a z_wants_a z_wantsMany_a z_st_a z_was_a z_images_a z_isKept_a z_told_a z_text_a z_saidWeight_a z_saidNights_a z_saidWants_a z_saidMany_a z_now_a z_gave_a z_at_a z_way_a z_bestWay_a z_made_a z_people z_known z_toldMany z_trace z_texted z_cursor z_start z_token z_number z_isWrong z_items z_saidPeople z_saidLaw z_ringed z_lumps z_st z_now_29 z_gave z_wantsMany z_wants z_weight z_at) H := hW
      refine lv_aload_n (pc := 32) hx hb (tb_at tk_X8_served 19 rfl) rfl (lv_at hl 0 rfl) ?_
      refine lv_iload_n (pc := 33) hx hb (tb_at tk_X8_served 20 rfl) rfl (lv_at hl 1 rfl) ?_
      refine lv_aload_n (pc := 34) hx hb (tb_at tk_X8_served 21 rfl) rfl (lv_at hl 0 rfl) ?_
      refine k_get (pc := 35) (v := .ref z_st_a) (T := TX8) B inG8 hW 0 rfl rfl 4 (by decide) q_f_X8_19 rfl rfl (tb_at tk_X8_served 22 rfl) ?_
      refine lv_bipush (pc := 38) (v := 24) hx hb (tb_at tk_X8_served 23 rfl) (by decide) ?_
      have ii := ivi_in (ck_l h)
      have h := ck_r h
      refine k_iald (pc := 40) B hW 1 0 rfl rfl ii (tb_at tk_X8_served 24 rfl) ?_
      refine k_callv (pc := 41) B (k_runVv (rest := []) (C := RX8) B (c_X8_goesBy l dC dI cI cZ cQ cW z_o z_weight_a z_wants_a z_wantsMany_a z_st_a z_was_a z_images_a z_isKept_a z_told_a z_text_a z_saidWeight_a z_saidNights_a z_saidWants_a z_saidMany_a z_now_a z_gave_a z_at_a z_way_a z_bestWay_a z_made_a z_people z_known z_toldMany z_trace z_texted z_cursor z_start z_token z_number z_isWrong z_items z_saidPeople z_saidLaw z_ringed z_lumps z_now_29 z_gave z_wantsMany z_wants z_weight z_at x1 (z_st ((24 : Int32)).toNatClampNeg) N _ res h) E0_st (fun _ _ _ => trivial) q_c_X8_goesBy q_m_X8_184 q_i_X8_goesBy q_s_X8_goesBy q_n_X8 hd_X8_goesBy ⟨rfl, rfl⟩ ⟨Nat.le_of_ble_eq_true rfl, Nat.le_of_ble_eq_true rfl⟩ hW [0, 2, 3, 4, 5, 6, 7] rfl (by decide +kernel) (q0 := 0) (ci := 8) rfl rfl rfl hl.1 rfl (Nat.le_of_ble_eq_true rfl) (tb_at tk_X8_served 25 rfl) ⟨Nat.zero_le _, Nat.zero_le _⟩) hW hS [0, 2, 3, 4, 5, 6, 7] rfl [z_o, z_now_a, z_gave_a, z_wantsMany_a, z_wants_a, z_weight_a, z_at_a] rfl (fun _ => rfl) [some 0, none, some 1, some 2, some 3, some 4, some 5, some 6] (by decide +kernel) (fun u => (w_X8_served cI cZ cQ cW z_o z_weight_a z_wants_a z_wantsMany_a z_st_a z_was_a z_images_a z_isKept_a z_told_a z_text_a z_saidWeight_a z_saidNights_a z_saidWants_a z_saidMany_a z_now_a z_gave_a z_at_a z_way_a z_bestWay_a z_made_a z_people z_known z_toldMany z_trace z_texted z_cursor z_start z_token z_number z_isWrong z_items z_saidPeople z_saidLaw u.1 u.2.1 z_st u.2.2.1 u.2.2.2.1 z_wantsMany z_wants z_weight u.2.2.2.2)) (fun _ => rfl) (fun u H locs h hW hS => ?_)
      obtain ⟨z_ringed_41, z_lumps_41, z_now_41, z_gave_41, z_at_41⟩ := u
      dsimp only at h
      have hW : PD (dC, dI) A (w_X8_served cI cZ cQ cW z_o z_weight_a z_wants_a z_wantsMany_a z_st_a z_was_a z_images_a z_isKept_a z_told_a z_text_a z_saidWeight_a z_saidNights_a z_saidWants_a z_saidMany_a z_now_a z_gave_a z_at_a z_way_a z_bestWay_a z_made_a z_people z_known z_toldMany z_trace z_texted z_cursor z_start z_token z_number z_isWrong z_items z_saidPeople z_saidLaw z_ringed_41 z_lumps_41 z_st z_now_41 z_gave_41 z_wantsMany z_wants z_weight z_at_41) H := hW
      refine lv_aload_n (pc := 44) hx hb (tb_at tk_X8_served 26 rfl) rfl (lv_at hl 0 rfl) ?_
      refine k_get (pc := 45) (v := .int z_ringed_41) (T := TX8) B inG8 hW 0 rfl rfl 29 (by decide) q_f_X8_155 rfl rfl (tb_at tk_X8_served 27 rfl) ?_
      refine k_call0 (pc := 48) B (k_runSi (rest := []) (host := "") B (c_X8_bits l dC dI cI cZ cQ cW   z_ringed_41 N _ res h) E0_st (fun _ _ _ => trivial) q_c_X8_bits q_m_X8_178 q_t_X8_bits q_n_X8 hd_X8_bits ⟨rfl, rfl⟩ ⟨Nat.le_of_ble_eq_true rfl, Nat.le_of_ble_eq_true rfl⟩ hW [] rfl (by decide +kernel) rfl hl.1 rfl (Nat.le_of_ble_eq_true rfl) (tb_at tk_X8_served 28 rfl) ⟨Nat.zero_le _, Nat.zero_le _⟩) hW hS (fun r48 u H locs h hW hS => ?_)
      exact hQ r48 (z_ringed_41, z_lumps_41, z_now_41, z_gave_41, z_at_41) _ _ _ 51 rfl h hW hS (tb_at tk_X8_served 29 rfl)
    · have h := it_f cc h
      refine lv_bipush (pc := 25) (v := (-2)) hx hb (tb_at tk_X8_served 15 rfl) (by decide) ?_
      exact hQ (-2) (z_ringed, z_lumps, z_now, z_gave, z_at) _ _ _ 27 rfl h hW hS (tb_at tk_X8_served 16 rfl)
  · have h := it_t cc h
    refine lv_iconst (pc := 12) (v := (-1)) hx hb (tb_at tk_X8_served 6 rfl) (by decide) ?_
    exact hQ (-1) (z_ringed, z_lumps, z_now, z_gave, z_at) _ _ _ 13 rfl h hW hS (tb_at tk_X8_served 7 rfl)
def f_X8_get_j109 {ρ : Type} (y4_l30 : Int32) (y5_l30 : Int32) (z_ringed_71 : Int32) (z_lumps_71 : Int32) (z_now_71 : Nat → Int32) (z_gave_71 : Nat → Int32) (z_at_71 : Nat → Int32) (kb30 : Int32 → Int32 → Int32 → Int32 → (Nat → Int32) → (Nat → Int32) → (Nat → Int32) → Option ρ) (s0_j109 : Int32) : Option ρ := if s0_j109 = 0 then (kb30 y4_l30 (y5_l30 + 1) z_ringed_71 z_lumps_71 z_now_71 z_gave_71 z_at_71) else (kb30 y5_l30 (y5_l30 + 1) z_ringed_71 z_lumps_71 z_now_71 z_gave_71 z_at_71)
def f_X8_get_j108 {ρ : Type} (y4_l30 : Int32) (y5_l30 : Int32) (z_ringed_71 : Int32) (z_lumps_71 : Int32) (z_now_71 : Nat → Int32) (z_gave_71 : Nat → Int32) (z_at_71 : Nat → Int32) (kb30 : Int32 → Int32 → Int32 → Int32 → (Nat → Int32) → (Nat → Int32) → (Nat → Int32) → Option ρ) : Option ρ := f_X8_get_j109 y4_l30 y5_l30 z_ringed_71 z_lumps_71 z_now_71 z_gave_71 z_at_71 kb30 0
def f_X8_get_j104 {ρ : Type} (y4_l30 : Int32) (y5_l30 : Int32) (z_ringed_71 : Int32) (z_lumps_71 : Int32) (z_now_71 : Nat → Int32) (z_gave_71 : Nat → Int32) (z_at_71 : Nat → Int32) (kb30 : Int32 → Int32 → Int32 → Int32 → (Nat → Int32) → (Nat → Int32) → (Nat → Int32) → Option ρ) : Option ρ := f_X8_get_j109 y4_l30 y5_l30 z_ringed_71 z_lumps_71 z_now_71 z_gave_71 z_at_71 kb30 1
def f_X8_get_l30 {ρ : Type} (x1 : Int32) (x2 : Int32) (z_people : Int32) (z_st : Nat → Int32) (z_wantsMany : Nat → Int32) (z_wants : Nat → Int32) (z_weight : Nat → Int32) (r19 : Int32) (k : Int32 → Int32 → Int32 → (Nat → Int32) → (Nat → Int32) → (Nat → Int32) → Option ρ) (N : Nat) : Nat → Int32 → Int32 → Int32 → Int32 → (Nat → Int32) → (Nat → Int32) → (Nat → Int32) → Option ρ
  | 0, _, _, _, _, _, _, _ => none
  | n30 + 1, y4_l30, y5_l30, z_ringed_l30, z_lumps_l30, z_now_l30, z_gave_l30, z_at_l30 => f_X8_all N z_people (fun r33 => if r33 < y5_l30 then (k y4_l30 z_ringed_l30 z_lumps_l30 z_now_l30 z_gave_l30 z_at_l30) else (if (y5_l30 &&& (r19 ^^^ (-1))) = 0 then (f_X8_has N y5_l30 x1 (fun r51 => if r51 = 0 then ((f_X8_get_l30 x1 x2 z_people z_st z_wantsMany z_wants z_weight r19 k N n30) y4_l30 (y5_l30 + 1) z_ringed_l30 z_lumps_l30 z_now_l30 z_gave_l30 z_at_l30) else (f_X8_asItIs N z_st z_now_l30 (fun z_now_58 => ck (ivi (24 : Int32) 25) (f_X8_goesBy N z_people z_now_58 z_gave_l30 z_wantsMany z_wants z_weight z_at_l30 y5_l30 (z_st ((24 : Int32)).toNatClampNeg) (fun z_ringed_71 z_lumps_71 z_now_71 z_gave_71 z_at_71 => ck (ivi ((0 : Int32) + x1) 25) (if (z_now_71 ((0 : Int32) + x1).toNatClampNeg) = x2 then (if y4_l30 < 0 then (f_X8_get_j104 y4_l30 y5_l30 z_ringed_71 z_lumps_71 z_now_71 z_gave_71 z_at_71 (f_X8_get_l30 x1 x2 z_people z_st z_wantsMany z_wants z_weight r19 k N n30) ) else (f_X8_bits N y5_l30 (fun r93 => f_X8_bits N y4_l30 (fun r98 => if r98 ≤ r93 then (f_X8_get_j108 y4_l30 y5_l30 z_ringed_71 z_lumps_71 z_now_71 z_gave_71 z_at_71 (f_X8_get_l30 x1 x2 z_people z_st z_wantsMany z_wants z_weight r19 k N n30) ) else (f_X8_get_j104 y4_l30 y5_l30 z_ringed_71 z_lumps_71 z_now_71 z_gave_71 z_at_71 (f_X8_get_l30 x1 x2 z_people z_st z_wantsMany z_wants z_weight r19 k N n30) ))))) else (f_X8_get_j108 y4_l30 y5_l30 z_ringed_71 z_lumps_71 z_now_71 z_gave_71 z_at_71 (f_X8_get_l30 x1 x2 z_people z_st z_wantsMany z_wants z_weight r19 k N n30) )))))))) else ((f_X8_get_l30 x1 x2 z_people z_st z_wantsMany z_wants z_weight r19 k N n30) y4_l30 (y5_l30 + 1) z_ringed_l30 z_lumps_l30 z_now_l30 z_gave_l30 z_at_l30)))
def f_X8_get {ρ : Type} (N : Nat) (z_people : Int32) (z_ringed : Int32) (z_lumps : Int32) (z_st : Nat → Int32) (z_now : Nat → Int32) (z_gave : Nat → Int32) (z_wantsMany : Nat → Int32) (z_wants : Nat → Int32) (z_weight : Nat → Int32) (z_at : Nat → Int32) (x1 : Int32) (x2 : Int32) (k : Int32 → Int32 → Int32 → (Nat → Int32) → (Nat → Int32) → (Nat → Int32) → Option ρ) : Option ρ := f_X8_isPerson N z_people x1 (fun r2 => if r2 = 0 then (k (-1) z_ringed z_lumps z_now z_gave z_at) else (f_X8_isPerson N z_people x2 (fun r10 => if r10 = 0 then (k (-1) z_ringed z_lumps z_now z_gave z_at) else (f_X8_able N z_people z_st (fun r19 => f_X8_get_l30 x1 x2 z_people z_st z_wantsMany z_wants z_weight r19 k N N (-9) 0 z_ringed z_lumps z_now z_gave z_at)))))
abbrev w_X8_get (cI cZ cQ cW : ClassId) (z_o : Nat) (z_weight_a : Nat) (z_wants_a : Nat) (z_wantsMany_a : Nat) (z_st_a : Nat) (z_was_a : Nat) (z_images_a : Nat) (z_isKept_a : Nat) (z_told_a : Nat) (z_text_a : Nat) (z_saidWeight_a : Nat) (z_saidNights_a : Nat) (z_saidWants_a : Nat) (z_saidMany_a : Nat) (z_now_a : Nat) (z_gave_a : Nat) (z_at_a : Nat) (z_way_a : Nat) (z_bestWay_a : Nat) (z_made_a : Nat) (z_people : Int32) (z_known : Int32) (z_toldMany : Int32) (z_trace : Int64) (z_texted : Int32) (z_cursor : Int32) (z_start : Int32) (z_token : Int32) (z_number : Int32) (z_isWrong : Int32) (z_items : Int32) (z_saidPeople : Int32) (z_saidLaw : Int32) (z_ringed : Int32) (z_lumps : Int32) (z_st : Nat → Int32) (z_now : Nat → Int32) (z_gave : Nat → Int32) (z_wantsMany : Nat → Int32) (z_wants : Nat → Int32) (z_weight : Nat → Int32) (z_at : Nat → Int32) : va_W := [(z_o, .inr (8, [.int z_people, .ref z_weight_a, .ref z_wants_a, .ref z_wantsMany_a, .ref z_st_a, .ref z_was_a, .int z_known, .ref z_images_a, .ref z_isKept_a, .int z_toldMany, .ref z_told_a, .long z_trace, .ref z_text_a, .int z_texted, .int z_cursor, .int z_start, .int z_token, .int z_number, .int z_isWrong, .int z_items, .int z_saidPeople, .ref z_saidWeight_a, .ref z_saidNights_a, .ref z_saidWants_a, .ref z_saidMany_a, .int z_saidLaw, .ref z_now_a, .ref z_gave_a, .ref z_at_a, .int z_ringed, .int z_lumps, .ref z_way_a, .ref z_bestWay_a, .ref z_made_a])), (z_st_a, .inl (cI, 25, .inl z_st)), (z_now_a, .inl (cI, 25, .inl z_now)), (z_gave_a, .inl (cI, 6, .inl z_gave)), (z_wantsMany_a, .inl (cI, 6, .inl z_wantsMany)), (z_wants_a, .inl (cI, 24, .inl z_wants)), (z_weight_a, .inl (cI, 6, .inl z_weight)), (z_at_a, .inl (cI, 6, .inl z_at))]
abbrev rm_X8_get : Room := { frames := 4, cells := 0, slots := 0, locals := 101 }
set_option maxHeartbeats 4000000 in
set_option maxRecDepth 100000 in
theorem c_X8_get (l : Launch) (dC : Nat → ClassId) (dI : Nat → Nat → Nat) (cI cZ cQ cW : ClassId) (z_o : Nat) (z_weight_a : Nat) (z_wants_a : Nat) (z_wantsMany_a : Nat) (z_st_a : Nat) (z_was_a : Nat) (z_images_a : Nat) (z_isKept_a : Nat) (z_told_a : Nat) (z_text_a : Nat) (z_saidWeight_a : Nat) (z_saidNights_a : Nat) (z_saidWants_a : Nat) (z_saidMany_a : Nat) (z_now_a : Nat) (z_gave_a : Nat) (z_at_a : Nat) (z_way_a : Nat) (z_bestWay_a : Nat) (z_made_a : Nat) (z_people : Int32) (z_known : Int32) (z_toldMany : Int32) (z_trace : Int64) (z_texted : Int32) (z_cursor : Int32) (z_start : Int32) (z_token : Int32) (z_number : Int32) (z_isWrong : Int32) (z_items : Int32) (z_saidPeople : Int32) (z_saidLaw : Int32) (z_ringed : Int32) (z_lumps : Int32) (z_st : Nat → Int32) (z_now : Nat → Int32) (z_gave : Nat → Int32) (z_wantsMany : Nat → Int32) (z_wants : Nat → Int32) (z_weight : Nat → Int32) (z_at : Nat → Int32) (x1 : Int32) (x2 : Int32) {ρ : Type} (N : Nat) (k : Int32 → Int32 → Int32 → (Nat → Int32) → (Nat → Int32) → (Nat → Int32) → Option ρ) (res : ρ) (h : f_X8_get N z_people z_ringed z_lumps z_st z_now z_gave z_wantsMany z_wants z_weight z_at x1 x2 k = some res) : Ci l yX8_get (WS yX8_get cX8_get 7 (some .int)) rm_X8_get (dC, dI) (tysG cI cZ cQ cW) E0 [.ref z_o, .int x1, .int x2] (w_X8_get cI cZ cQ cW z_o z_weight_a z_wants_a z_wantsMany_a z_st_a z_was_a z_images_a z_isKept_a z_told_a z_text_a z_saidWeight_a z_saidNights_a z_saidWants_a z_saidMany_a z_now_a z_gave_a z_at_a z_way_a z_bestWay_a z_made_a z_people z_known z_toldMany z_trace z_texted z_cursor z_start z_token z_number z_isWrong z_items z_saidPeople z_saidLaw z_ringed z_lumps z_st z_now z_gave z_wantsMany z_wants z_weight z_at) (fun (u : Int32 × Int32 × (Nat → Int32) × (Nat → Int32) × (Nat → Int32)) => (w_X8_get cI cZ cQ cW z_o z_weight_a z_wants_a z_wantsMany_a z_st_a z_was_a z_images_a z_isKept_a z_told_a z_text_a z_saidWeight_a z_saidNights_a z_saidWants_a z_saidMany_a z_now_a z_gave_a z_at_a z_way_a z_bestWay_a z_made_a z_people z_known z_toldMany z_trace z_texted z_cursor z_start z_token z_number z_isWrong z_items z_saidPeople z_saidLaw u.1 u.2.1 z_st u.2.2.1 u.2.2.2.1 z_wantsMany z_wants z_weight u.2.2.2.2)) (fun r u => k r u.1 u.2.1 u.2.2.1 u.2.2.2.1 u.2.2.2.2 = some res) := by
  refine Ci.of (cc := cX8_get) (n := 7) (by decide +kernel) (Nat.le_of_ble_eq_true rfl) ?_
  intro p e s m args below meth c A ls Q B hW hE hS hl hQ
  have hx := B.1
  have hb := B.2.1
  have hl : lv_has ls 7 [(0, .ref z_o), (1, .int x1), (2, .int x2)] := hl
  unfold f_X8_get at h
  refine lv_aload_n (pc := 0) hx hb (tb_at tk_X8_get 0 rfl) rfl (lv_at hl 0 rfl) ?_
  refine lv_iload_n (pc := 1) hx hb (tb_at tk_X8_get 1 rfl) rfl (lv_at hl 1 rfl) ?_
  refine k_calli (pc := 2) B (k_runVi (rest := []) (C := RX8) B (c_X8_isPerson l dC dI cI cZ cQ cW z_o z_weight_a z_wants_a z_wantsMany_a z_st_a z_was_a z_images_a z_isKept_a z_told_a z_text_a z_saidWeight_a z_saidNights_a z_saidWants_a z_saidMany_a z_now_a z_gave_a z_at_a z_way_a z_bestWay_a z_made_a z_people z_known z_toldMany z_trace z_texted z_cursor z_start z_token z_number z_isWrong z_items z_saidPeople z_saidLaw z_ringed z_lumps x1 N _ res h) E0_st (fun _ _ _ => trivial) q_c_X8_isPerson q_m_X8_168 q_i_X8_isPerson q_s_X8_isPerson q_n_X8 hd_X8_isPerson ⟨rfl, rfl⟩ ⟨Nat.le_of_ble_eq_true rfl, Nat.le_of_ble_eq_true rfl⟩ hW [0] rfl (by decide +kernel) (q0 := 0) (ci := 8) rfl rfl rfl hl.1 rfl (Nat.le_of_ble_eq_true rfl) (tb_at tk_X8_get 2 rfl) ⟨Nat.zero_le _, Nat.zero_le _⟩) hW hS [0] rfl [z_o] rfl (fun _ => rfl) [some 0, none, none, none, none, none, none, none] (by decide +kernel) (fun _ => (w_X8_get cI cZ cQ cW z_o z_weight_a z_wants_a z_wantsMany_a z_st_a z_was_a z_images_a z_isKept_a z_told_a z_text_a z_saidWeight_a z_saidNights_a z_saidWants_a z_saidMany_a z_now_a z_gave_a z_at_a z_way_a z_bestWay_a z_made_a z_people z_known z_toldMany z_trace z_texted z_cursor z_start z_token z_number z_isWrong z_items z_saidPeople z_saidLaw z_ringed z_lumps z_st z_now z_gave z_wantsMany z_wants z_weight z_at)) (fun _ => rfl) (fun r2 u H locs h hW hS => ?_)
  have hW : PD (dC, dI) A (w_X8_get cI cZ cQ cW z_o z_weight_a z_wants_a z_wantsMany_a z_st_a z_was_a z_images_a z_isKept_a z_told_a z_text_a z_saidWeight_a z_saidNights_a z_saidWants_a z_saidMany_a z_now_a z_gave_a z_at_a z_way_a z_bestWay_a z_made_a z_people z_known z_toldMany z_trace z_texted z_cursor z_start z_token z_number z_isWrong z_items z_saidPeople z_saidLaw z_ringed z_lumps z_st z_now z_gave z_wantsMany z_wants z_weight z_at) H := hW
  refine lv_if_eq (pc := 5) (tgt := 16) hx hb (tb_at tk_X8_get 3 rfl) (by decide) (fun cc => ?_) (fun cc => ?_)
  · have h := it_t cc h
    refine lv_iconst (pc := 16) (v := (-1)) hx hb (tb_at tk_X8_get 8 rfl) (by decide) ?_
    exact hQ (-1) (z_ringed, z_lumps, z_now, z_gave, z_at) _ _ _ 17 rfl h hW hS (tb_at tk_X8_get 9 rfl)
  · have h := it_f cc h
    refine lv_aload_n (pc := 8) hx hb (tb_at tk_X8_get 4 rfl) rfl (lv_at hl 0 rfl) ?_
    refine lv_iload_n (pc := 9) hx hb (tb_at tk_X8_get 5 rfl) rfl (lv_at hl 2 rfl) ?_
    refine k_calli (pc := 10) B (k_runVi (rest := []) (C := RX8) B (c_X8_isPerson l dC dI cI cZ cQ cW z_o z_weight_a z_wants_a z_wantsMany_a z_st_a z_was_a z_images_a z_isKept_a z_told_a z_text_a z_saidWeight_a z_saidNights_a z_saidWants_a z_saidMany_a z_now_a z_gave_a z_at_a z_way_a z_bestWay_a z_made_a z_people z_known z_toldMany z_trace z_texted z_cursor z_start z_token z_number z_isWrong z_items z_saidPeople z_saidLaw z_ringed z_lumps x2 N _ res h) E0_st (fun _ _ _ => trivial) q_c_X8_isPerson q_m_X8_168 q_i_X8_isPerson q_s_X8_isPerson q_n_X8 hd_X8_isPerson ⟨rfl, rfl⟩ ⟨Nat.le_of_ble_eq_true rfl, Nat.le_of_ble_eq_true rfl⟩ hW [0] rfl (by decide +kernel) (q0 := 0) (ci := 8) rfl rfl rfl hl.1 rfl (Nat.le_of_ble_eq_true rfl) (tb_at tk_X8_get 6 rfl) ⟨Nat.zero_le _, Nat.zero_le _⟩) hW hS [0] rfl [z_o] rfl (fun _ => rfl) [some 0, none, none, none, none, none, none, none] (by decide +kernel) (fun _ => (w_X8_get cI cZ cQ cW z_o z_weight_a z_wants_a z_wantsMany_a z_st_a z_was_a z_images_a z_isKept_a z_told_a z_text_a z_saidWeight_a z_saidNights_a z_saidWants_a z_saidMany_a z_now_a z_gave_a z_at_a z_way_a z_bestWay_a z_made_a z_people z_known z_toldMany z_trace z_texted z_cursor z_start z_token z_number z_isWrong z_items z_saidPeople z_saidLaw z_ringed z_lumps z_st z_now z_gave z_wantsMany z_wants z_weight z_at)) (fun _ => rfl) (fun r10 u H locs h hW hS => ?_)
    have hW : PD (dC, dI) A (w_X8_get cI cZ cQ cW z_o z_weight_a z_wants_a z_wantsMany_a z_st_a z_was_a z_images_a z_isKept_a z_told_a z_text_a z_saidWeight_a z_saidNights_a z_saidWants_a z_saidMany_a z_now_a z_gave_a z_at_a z_way_a z_bestWay_a z_made_a z_people z_known z_toldMany z_trace z_texted z_cursor z_start z_token z_number z_isWrong z_items z_saidPeople z_saidLaw z_ringed z_lumps z_st z_now z_gave z_wantsMany z_wants z_weight z_at) H := hW
    refine lv_if_ne (pc := 13) (tgt := 18) hx hb (tb_at tk_X8_get 7 rfl) (by decide) (fun cc => ?_) (fun cc => ?_)
    · have h := it_f cc h
      refine lv_aload_n (pc := 18) hx hb (tb_at tk_X8_get 10 rfl) rfl (lv_at hl 0 rfl) ?_
      refine k_calli (pc := 19) B (k_runVi (rest := []) (C := RX8) B (c_X8_able l dC dI cI cZ cQ cW z_o z_weight_a z_wants_a z_wantsMany_a z_st_a z_was_a z_images_a z_isKept_a z_told_a z_text_a z_saidWeight_a z_saidNights_a z_saidWants_a z_saidMany_a z_now_a z_gave_a z_at_a z_way_a z_bestWay_a z_made_a z_people z_known z_toldMany z_trace z_texted z_cursor z_start z_token z_number z_isWrong z_items z_saidPeople z_saidLaw z_ringed z_lumps z_st  N _ res h) E0_st (fun _ _ _ => trivial) q_c_X8_able q_m_X8_171 q_i_X8_able q_s_X8_able q_n_X8 hd_X8_able ⟨rfl, rfl⟩ ⟨Nat.le_of_ble_eq_true rfl, Nat.le_of_ble_eq_true rfl⟩ hW [0, 1] rfl (by decide +kernel) (q0 := 0) (ci := 8) rfl rfl rfl hl.1 rfl (Nat.le_of_ble_eq_true rfl) (tb_at tk_X8_get 11 rfl) ⟨Nat.zero_le _, Nat.zero_le _⟩) hW hS [0, 1] rfl [z_o, z_st_a] rfl (fun _ => rfl) [some 0, some 1, none, none, none, none, none, none] (by decide +kernel) (fun _ => (w_X8_get cI cZ cQ cW z_o z_weight_a z_wants_a z_wantsMany_a z_st_a z_was_a z_images_a z_isKept_a z_told_a z_text_a z_saidWeight_a z_saidNights_a z_saidWants_a z_saidMany_a z_now_a z_gave_a z_at_a z_way_a z_bestWay_a z_made_a z_people z_known z_toldMany z_trace z_texted z_cursor z_start z_token z_number z_isWrong z_items z_saidPeople z_saidLaw z_ringed z_lumps z_st z_now z_gave z_wantsMany z_wants z_weight z_at)) (fun _ => rfl) (fun r19 u H locs h hW hS => ?_)
      have hW : PD (dC, dI) A (w_X8_get cI cZ cQ cW z_o z_weight_a z_wants_a z_wantsMany_a z_st_a z_was_a z_images_a z_isKept_a z_told_a z_text_a z_saidWeight_a z_saidNights_a z_saidWants_a z_saidMany_a z_now_a z_gave_a z_at_a z_way_a z_bestWay_a z_made_a z_people z_known z_toldMany z_trace z_texted z_cursor z_start z_token z_number z_isWrong z_items z_saidPeople z_saidLaw z_ringed z_lumps z_st z_now z_gave z_wantsMany z_wants z_weight z_at) H := hW
      refine lv_istore_n (pc := 22) (lv' := [(3, .int r19), (0, .ref z_o), (1, .int x1), (2, .int x2)]) hx hb (tb_at tk_X8_get 12 rfl) rfl hl (by decide) rfl (fun ls hl => ?_)
      refine lv_bipush (pc := 23) (v := (-9)) hx hb (tb_at tk_X8_get 13 rfl) (by decide) ?_
      refine lv_istore (pc := 25) (lv' := [(4, .int (-9)), (3, .int r19), (0, .ref z_o), (1, .int x1), (2, .int x2)]) hx hb (tb_at tk_X8_get 14 rfl) hl (by decide) rfl (fun ls hl => ?_)
      refine lv_iconst (pc := 27) (v := 0) hx hb (tb_at tk_X8_get 15 rfl) (by decide) ?_
      refine lv_istore (pc := 28) (lv' := [(5, .int 0), (4, .int (-9)), (3, .int r19), (0, .ref z_o), (1, .int x1), (2, .int x2)]) hx hb (tb_at tk_X8_get 16 rfl) hl (by decide) rfl (fun ls hl => ?_)
      have w30 : ∀ (n : Nat), ∀ (y4_l30 : Int32) (y5_l30 : Int32) (z_ringed_l30 : Int32) (z_lumps_l30 : Int32) (z_now_l30 : Nat → Int32) (z_gave_l30 : Nat → Int32) (z_at_l30 : Nat → Int32) (H : Heap) (locs : List Loc) (ls : Array Slot), f_X8_get_l30 x1 x2 z_people z_st z_wantsMany z_wants z_weight r19 k N n y4_l30 y5_l30 z_ringed_l30 z_lumps_l30 z_now_l30 z_gave_l30 z_at_l30 = some res → PD (dC, dI) A (w_X8_get cI cZ cQ cW z_o z_weight_a z_wants_a z_wantsMany_a z_st_a z_was_a z_images_a z_isKept_a z_told_a z_text_a z_saidWeight_a z_saidNights_a z_saidWants_a z_saidMany_a z_now_a z_gave_a z_at_a z_way_a z_bestWay_a z_made_a z_people z_known z_toldMany z_trace z_texted z_cursor z_start z_token z_number z_isWrong z_items z_saidPeople z_saidLaw z_ringed_l30 z_lumps_l30 z_st z_now_l30 z_gave_l30 z_wantsMany z_wants z_weight z_at_l30) H → va_S A s.heap H locs → lv_has ls 7 [(0, .ref z_o), (1, .int x1), (2, .int x2), (3, .int r19), (4, .int y4_l30), (5, .int y5_l30)] → W p l e rm_X8_get s m args below meth c H locs 0 0 Q (F0 m 30 ls []) := by
        intro n
        induction n with
        | zero => intro y4_l30 y5_l30 z_ringed_l30 z_lumps_l30 z_now_l30 z_gave_l30 z_at_l30 H locs ls h; exact no_n h
        | succ n30 ih30 =>
          intro y4_l30 y5_l30 z_ringed_l30 z_lumps_l30 z_now_l30 z_gave_l30 z_at_l30 H locs ls h hW hS hl
          rw [f_X8_get_l30] at h
          refine lv_iload (pc := 30) hx hb (tb_at tk_X8_get 17 rfl) (lv_at hl 5 rfl) ?_
          refine lv_aload_n (pc := 32) hx hb (tb_at tk_X8_get 18 rfl) rfl (lv_at hl 0 rfl) ?_
          refine k_calli (pc := 33) B (k_runVi (rest := [.int y5_l30]) (C := RX8) B (c_X8_all l dC dI cI cZ cQ cW z_o z_weight_a z_wants_a z_wantsMany_a z_st_a z_was_a z_images_a z_isKept_a z_told_a z_text_a z_saidWeight_a z_saidNights_a z_saidWants_a z_saidMany_a z_now_a z_gave_a z_at_a z_way_a z_bestWay_a z_made_a z_people z_known z_toldMany z_trace z_texted z_cursor z_start z_token z_number z_isWrong z_items z_saidPeople z_saidLaw z_ringed_l30 z_lumps_l30  N _ res h) E0_st (fun _ _ _ => trivial) q_c_X8_all q_m_X8_191 q_i_X8_all q_s_X8_all q_n_X8 hd_X8_all ⟨rfl, rfl⟩ ⟨Nat.le_of_ble_eq_true rfl, Nat.le_of_ble_eq_true rfl⟩ hW [0] rfl (by decide +kernel) (q0 := 0) (ci := 8) rfl rfl rfl hl.1 rfl (Nat.le_of_ble_eq_true rfl) (tb_at tk_X8_get 19 rfl) ⟨Nat.zero_le _, Nat.zero_le _⟩) hW hS [0] rfl [z_o] rfl (fun _ => rfl) [some 0, none, none, none, none, none, none, none] (by decide +kernel) (fun _ => (w_X8_get cI cZ cQ cW z_o z_weight_a z_wants_a z_wantsMany_a z_st_a z_was_a z_images_a z_isKept_a z_told_a z_text_a z_saidWeight_a z_saidNights_a z_saidWants_a z_saidMany_a z_now_a z_gave_a z_at_a z_way_a z_bestWay_a z_made_a z_people z_known z_toldMany z_trace z_texted z_cursor z_start z_token z_number z_isWrong z_items z_saidPeople z_saidLaw z_ringed_l30 z_lumps_l30 z_st z_now_l30 z_gave_l30 z_wantsMany z_wants z_weight z_at_l30)) (fun _ => rfl) (fun r33 u H locs h hW hS => ?_)
          have hW : PD (dC, dI) A (w_X8_get cI cZ cQ cW z_o z_weight_a z_wants_a z_wantsMany_a z_st_a z_was_a z_images_a z_isKept_a z_told_a z_text_a z_saidWeight_a z_saidNights_a z_saidWants_a z_saidMany_a z_now_a z_gave_a z_at_a z_way_a z_bestWay_a z_made_a z_people z_known z_toldMany z_trace z_texted z_cursor z_start z_token z_number z_isWrong z_items z_saidPeople z_saidLaw z_ringed_l30 z_lumps_l30 z_st z_now_l30 z_gave_l30 z_wantsMany z_wants z_weight z_at_l30) H := hW
          refine lv_icmp_gt (pc := 36) (tgt := 131) hx hb (tb_at tk_X8_get 20 rfl) (by decide) (fun cc => ?_) (fun cc => ?_)
          · have h := it_t cc h
            refine lv_iload (pc := 131) hx hb (tb_at tk_X8_get 67 rfl) (lv_at hl 4 rfl) ?_
            exact hQ y4_l30 (z_ringed_l30, z_lumps_l30, z_now_l30, z_gave_l30, z_at_l30) _ _ _ 133 rfl h hW hS (tb_at tk_X8_get 68 rfl)
          · have h := it_f cc h
            refine lv_iload (pc := 39) hx hb (tb_at tk_X8_get 21 rfl) (lv_at hl 5 rfl) ?_
            refine lv_iload_n (pc := 41) hx hb (tb_at tk_X8_get 22 rfl) rfl (lv_at hl 3 rfl) ?_
            refine lv_iconst (pc := 42) (v := (-1)) hx hb (tb_at tk_X8_get 23 rfl) (by decide) ?_
            refine lv_ixor (pc := 43) hx hb (tb_at tk_X8_get 24 rfl) ?_
            refine lv_iand (pc := 44) hx hb (tb_at tk_X8_get 25 rfl) ?_
            refine lv_if_ne (pc := 45) (tgt := 125) hx hb (tb_at tk_X8_get 26 rfl) (by decide) (fun cc => ?_) (fun cc => ?_)
            · have h := it_f cc h
              refine lv_iinc (pc := 125) (v := y5_l30 + 1) (lv' := [(5, .int (y5_l30 + 1)), (0, .ref z_o), (1, .int x1), (2, .int x2), (3, .int r19), (4, .int y4_l30)]) hx hb (tb_at tk_X8_get 65 rfl) hl (k := 5) rfl rfl (by decide) rfl (fun ls hl => ?_)
              refine lv_goto (pc := 128) (tgt := 30) hx hb (tb_at tk_X8_get 66 rfl) (by decide) ?_
              exact ih30 y4_l30 (y5_l30 + 1) z_ringed_l30 z_lumps_l30 z_now_l30 z_gave_l30 z_at_l30 _ _ _ h hW hS (lv_sub hl [1, 2, 3, 4, 5, 0] rfl)
            · have h := it_t cc h
              refine lv_iload (pc := 48) hx hb (tb_at tk_X8_get 27 rfl) (lv_at hl 5 rfl) ?_
              refine lv_iload_n (pc := 50) hx hb (tb_at tk_X8_get 28 rfl) rfl (lv_at hl 1 rfl) ?_
              refine k_call0 (pc := 51) B (k_runSi (rest := []) (host := "") B (c_X8_has l dC dI cI cZ cQ cW   y5_l30 x1 N _ res h) E0_st (fun _ _ _ => trivial) q_c_X8_has q_m_X8_113 q_t_X8_has q_n_X8 hd_X8_has ⟨rfl, rfl⟩ ⟨Nat.le_of_ble_eq_true rfl, Nat.le_of_ble_eq_true rfl⟩ hW [] rfl (by decide +kernel) rfl hl.1 rfl (Nat.le_of_ble_eq_true rfl) (tb_at tk_X8_get 29 rfl) ⟨Nat.zero_le _, Nat.zero_le _⟩) hW hS (fun r51 u H locs h hW hS => ?_)
              refine lv_if_eq (pc := 54) (tgt := 125) hx hb (tb_at tk_X8_get 30 rfl) (by decide) (fun cc => ?_) (fun cc => ?_)
              · have h := it_t cc h
                refine lv_iinc (pc := 125) (v := y5_l30 + 1) (lv' := [(5, .int (y5_l30 + 1)), (0, .ref z_o), (1, .int x1), (2, .int x2), (3, .int r19), (4, .int y4_l30)]) hx hb (tb_at tk_X8_get 65 rfl) hl (k := 5) rfl rfl (by decide) rfl (fun ls hl => ?_)
                refine lv_goto (pc := 128) (tgt := 30) hx hb (tb_at tk_X8_get 66 rfl) (by decide) ?_
                exact ih30 y4_l30 (y5_l30 + 1) z_ringed_l30 z_lumps_l30 z_now_l30 z_gave_l30 z_at_l30 _ _ _ h hW hS (lv_sub hl [1, 2, 3, 4, 5, 0] rfl)
              · have h := it_f cc h
                refine lv_aload_n (pc := 57) hx hb (tb_at tk_X8_get 31 rfl) rfl (lv_at hl 0 rfl) ?_
                refine k_callv (pc := 58) B (k_runVv (rest := []) (C := RX8) B (c_X8_asItIs l dC dI cI cZ cQ cW z_o z_weight_a z_wants_a z_wantsMany_a z_st_a z_was_a z_images_a z_isKept_a z_told_a z_text_a z_saidWeight_a z_saidNights_a z_saidWants_a z_saidMany_a z_now_a z_gave_a z_at_a z_way_a z_bestWay_a z_made_a z_people z_known z_toldMany z_trace z_texted z_cursor z_start z_token z_number z_isWrong z_items z_saidPeople z_saidLaw z_ringed_l30 z_lumps_l30 z_st z_now_l30  N _ res h) E0_st (fun _ _ _ => trivial) q_c_X8_asItIs q_m_X8_181 q_i_X8_asItIs q_s_X8_asItIs q_n_X8 hd_X8_asItIs ⟨rfl, rfl⟩ ⟨Nat.le_of_ble_eq_true rfl, Nat.le_of_ble_eq_true rfl⟩ hW [0, 1, 2] rfl (by decide +kernel) (q0 := 0) (ci := 8) rfl rfl rfl hl.1 rfl (Nat.le_of_ble_eq_true rfl) (tb_at tk_X8_get 32 rfl) ⟨Nat.zero_le _, Nat.zero_le _⟩) hW hS [0, 1, 2] rfl [z_o, z_st_a, z_now_a] rfl (fun _ => rfl) [some 0, some 1, some 2, none, none, none, none, none] (by decide +kernel) (fun u => (w_X8_get cI cZ cQ cW z_o z_weight_a z_wants_a z_wantsMany_a z_st_a z_was_a z_images_a z_isKept_a z_told_a z_text_a z_saidWeight_a z_saidNights_a z_saidWants_a z_saidMany_a z_now_a z_gave_a z_at_a z_way_a z_bestWay_a z_made_a z_people z_known z_toldMany z_trace z_texted z_cursor z_start z_token z_number z_isWrong z_items z_saidPeople z_saidLaw z_ringed_l30 z_lumps_l30 z_st u z_gave_l30 z_wantsMany z_wants z_weight z_at_l30)) (fun _ => rfl) (fun u H locs h hW hS => ?_)
                obtain ⟨z_now_58, rfl⟩ : ∃ z9, z9 = u := ⟨_, rfl⟩
                have hW : PD (dC, dI) A (w_X8_get cI cZ cQ cW z_o z_weight_a z_wants_a z_wantsMany_a z_st_a z_was_a z_images_a z_isKept_a z_told_a z_text_a z_saidWeight_a z_saidNights_a z_saidWants_a z_saidMany_a z_now_a z_gave_a z_at_a z_way_a z_bestWay_a z_made_a z_people z_known z_toldMany z_trace z_texted z_cursor z_start z_token z_number z_isWrong z_items z_saidPeople z_saidLaw z_ringed_l30 z_lumps_l30 z_st z_now_58 z_gave_l30 z_wantsMany z_wants z_weight z_at_l30) H := hW
                refine lv_aload_n (pc := 61) hx hb (tb_at tk_X8_get 33 rfl) rfl (lv_at hl 0 rfl) ?_
                refine lv_iload (pc := 62) hx hb (tb_at tk_X8_get 34 rfl) (lv_at hl 5 rfl) ?_
                refine lv_aload_n (pc := 64) hx hb (tb_at tk_X8_get 35 rfl) rfl (lv_at hl 0 rfl) ?_
                refine k_get (pc := 65) (v := .ref z_st_a) (T := TX8) B inG8 hW 0 rfl rfl 4 (by decide) q_f_X8_19 rfl rfl (tb_at tk_X8_get 36 rfl) ?_
                refine lv_bipush (pc := 68) (v := 24) hx hb (tb_at tk_X8_get 37 rfl) (by decide) ?_
                have ii := ivi_in (ck_l h)
                have h := ck_r h
                refine k_iald (pc := 70) B hW 1 0 rfl rfl ii (tb_at tk_X8_get 38 rfl) ?_
                refine k_callv (pc := 71) B (k_runVv (rest := []) (C := RX8) B (c_X8_goesBy l dC dI cI cZ cQ cW z_o z_weight_a z_wants_a z_wantsMany_a z_st_a z_was_a z_images_a z_isKept_a z_told_a z_text_a z_saidWeight_a z_saidNights_a z_saidWants_a z_saidMany_a z_now_a z_gave_a z_at_a z_way_a z_bestWay_a z_made_a z_people z_known z_toldMany z_trace z_texted z_cursor z_start z_token z_number z_isWrong z_items z_saidPeople z_saidLaw z_ringed_l30 z_lumps_l30 z_now_58 z_gave_l30 z_wantsMany z_wants z_weight z_at_l30 y5_l30 (z_st ((24 : Int32)).toNatClampNeg) N _ res h) E0_st (fun _ _ _ => trivial) q_c_X8_goesBy q_m_X8_184 q_i_X8_goesBy q_s_X8_goesBy q_n_X8 hd_X8_goesBy ⟨rfl, rfl⟩ ⟨Nat.le_of_ble_eq_true rfl, Nat.le_of_ble_eq_true rfl⟩ hW [0, 2, 3, 4, 5, 6, 7] rfl (by decide +kernel) (q0 := 0) (ci := 8) rfl rfl rfl hl.1 rfl (Nat.le_of_ble_eq_true rfl) (tb_at tk_X8_get 39 rfl) ⟨Nat.zero_le _, Nat.zero_le _⟩) hW hS [0, 2, 3, 4, 5, 6, 7] rfl [z_o, z_now_a, z_gave_a, z_wantsMany_a, z_wants_a, z_weight_a, z_at_a] rfl (fun _ => rfl) [some 0, none, some 1, some 2, some 3, some 4, some 5, some 6] (by decide +kernel) (fun u => (w_X8_get cI cZ cQ cW z_o z_weight_a z_wants_a z_wantsMany_a z_st_a z_was_a z_images_a z_isKept_a z_told_a z_text_a z_saidWeight_a z_saidNights_a z_saidWants_a z_saidMany_a z_now_a z_gave_a z_at_a z_way_a z_bestWay_a z_made_a z_people z_known z_toldMany z_trace z_texted z_cursor z_start z_token z_number z_isWrong z_items z_saidPeople z_saidLaw u.1 u.2.1 z_st u.2.2.1 u.2.2.2.1 z_wantsMany z_wants z_weight u.2.2.2.2)) (fun _ => rfl) (fun u H locs h hW hS => ?_)
                obtain ⟨z_ringed_71, z_lumps_71, z_now_71, z_gave_71, z_at_71⟩ := u
                dsimp only at h
                have hW : PD (dC, dI) A (w_X8_get cI cZ cQ cW z_o z_weight_a z_wants_a z_wantsMany_a z_st_a z_was_a z_images_a z_isKept_a z_told_a z_text_a z_saidWeight_a z_saidNights_a z_saidWants_a z_saidMany_a z_now_a z_gave_a z_at_a z_way_a z_bestWay_a z_made_a z_people z_known z_toldMany z_trace z_texted z_cursor z_start z_token z_number z_isWrong z_items z_saidPeople z_saidLaw z_ringed_71 z_lumps_71 z_st z_now_71 z_gave_71 z_wantsMany z_wants z_weight z_at_71) H := hW
                refine lv_aload_n (pc := 74) hx hb (tb_at tk_X8_get 40 rfl) rfl (lv_at hl 0 rfl) ?_
                refine k_get (pc := 75) (v := .ref z_now_a) (T := TX8) B inG8 hW 0 rfl rfl 26 (by decide) q_f_X8_50 rfl rfl (tb_at tk_X8_get 41 rfl) ?_
                refine lv_iconst (pc := 78) (v := 0) hx hb (tb_at tk_X8_get 42 rfl) (by decide) ?_
                refine lv_iload_n (pc := 79) hx hb (tb_at tk_X8_get 43 rfl) rfl (lv_at hl 1 rfl) ?_
                refine lv_iadd (pc := 80) hx hb (tb_at tk_X8_get 44 rfl) ?_
                have ii := ivi_in (ck_l h)
                have h := ck_r h
                refine k_iald (pc := 81) B hW 2 0 rfl rfl ii (tb_at tk_X8_get 45 rfl) ?_
                refine lv_iload_n (pc := 82) hx hb (tb_at tk_X8_get 46 rfl) rfl (lv_at hl 2 rfl) ?_
                have w109 : ∀ (s0_j109 : Int32) (H : Heap) (locs : List Loc) (ls : Array Slot), f_X8_get_j109 y4_l30 y5_l30 z_ringed_71 z_lumps_71 z_now_71 z_gave_71 z_at_71 (f_X8_get_l30 x1 x2 z_people z_st z_wantsMany z_wants z_weight r19 k N n30) s0_j109 = some res → PD (dC, dI) A (w_X8_get cI cZ cQ cW z_o z_weight_a z_wants_a z_wantsMany_a z_st_a z_was_a z_images_a z_isKept_a z_told_a z_text_a z_saidWeight_a z_saidNights_a z_saidWants_a z_saidMany_a z_now_a z_gave_a z_at_a z_way_a z_bestWay_a z_made_a z_people z_known z_toldMany z_trace z_texted z_cursor z_start z_token z_number z_isWrong z_items z_saidPeople z_saidLaw z_ringed_71 z_lumps_71 z_st z_now_71 z_gave_71 z_wantsMany z_wants z_weight z_at_71) H → va_S A s.heap H locs → lv_has ls 7 [(0, .ref z_o), (1, .int x1), (2, .int x2), (3, .int r19), (4, .int y4_l30), (5, .int y5_l30)] → W p l e rm_X8_get s m args below meth c H locs 0 0 Q (F0 m 109 ls [.int s0_j109]) := by
                  intro s0_j109 H locs ls h hW hS hl
                  unfold f_X8_get_j109 at h
                  refine lv_istore (pc := 109) (lv' := [(6, .int s0_j109), (0, .ref z_o), (1, .int x1), (2, .int x2), (3, .int r19), (4, .int y4_l30), (5, .int y5_l30)]) hx hb (tb_at tk_X8_get 58 rfl) hl (by decide) rfl (fun ls hl => ?_)
                  refine lv_iload (pc := 111) hx hb (tb_at tk_X8_get 59 rfl) (lv_at hl 0 rfl) ?_
                  refine lv_if_eq (pc := 113) (tgt := 121) hx hb (tb_at tk_X8_get 60 rfl) (by decide) (fun cc => ?_) (fun cc => ?_)
                  · have h := it_t cc h
                    refine lv_iload (pc := 121) hx hb (tb_at tk_X8_get 63 rfl) (lv_at hl 5 rfl) ?_
                    refine lv_istore (pc := 123) (lv' := [(4, .int y4_l30), (6, .int s0_j109), (0, .ref z_o), (1, .int x1), (2, .int x2), (3, .int r19), (5, .int y5_l30)]) hx hb (tb_at tk_X8_get 64 rfl) hl (by decide) rfl (fun ls hl => ?_)
                    refine lv_iinc (pc := 125) (v := y5_l30 + 1) (lv' := [(5, .int (y5_l30 + 1)), (4, .int y4_l30), (6, .int s0_j109), (0, .ref z_o), (1, .int x1), (2, .int x2), (3, .int r19)]) hx hb (tb_at tk_X8_get 65 rfl) hl (k := 6) rfl rfl (by decide) rfl (fun ls hl => ?_)
                    refine lv_goto (pc := 128) (tgt := 30) hx hb (tb_at tk_X8_get 66 rfl) (by decide) ?_
                    exact ih30 y4_l30 (y5_l30 + 1) z_ringed_71 z_lumps_71 z_now_71 z_gave_71 z_at_71 _ _ _ h hW hS (lv_sub hl [3, 4, 5, 6, 1, 0] rfl)
                  · have h := it_f cc h
                    refine lv_iload (pc := 116) hx hb (tb_at tk_X8_get 61 rfl) (lv_at hl 6 rfl) ?_
                    refine lv_goto (pc := 118) (tgt := 123) hx hb (tb_at tk_X8_get 62 rfl) (by decide) ?_
                    refine lv_istore (pc := 123) (lv' := [(4, .int y5_l30), (6, .int s0_j109), (0, .ref z_o), (1, .int x1), (2, .int x2), (3, .int r19), (5, .int y5_l30)]) hx hb (tb_at tk_X8_get 64 rfl) hl (by decide) rfl (fun ls hl => ?_)
                    refine lv_iinc (pc := 125) (v := y5_l30 + 1) (lv' := [(5, .int (y5_l30 + 1)), (4, .int y5_l30), (6, .int s0_j109), (0, .ref z_o), (1, .int x1), (2, .int x2), (3, .int r19)]) hx hb (tb_at tk_X8_get 65 rfl) hl (k := 6) rfl rfl (by decide) rfl (fun ls hl => ?_)
                    refine lv_goto (pc := 128) (tgt := 30) hx hb (tb_at tk_X8_get 66 rfl) (by decide) ?_
                    exact ih30 y5_l30 (y5_l30 + 1) z_ringed_71 z_lumps_71 z_now_71 z_gave_71 z_at_71 _ _ _ h hW hS (lv_sub hl [3, 4, 5, 6, 1, 0] rfl)
                have w108 : ∀ (H : Heap) (locs : List Loc) (ls : Array Slot), f_X8_get_j108 y4_l30 y5_l30 z_ringed_71 z_lumps_71 z_now_71 z_gave_71 z_at_71 (f_X8_get_l30 x1 x2 z_people z_st z_wantsMany z_wants z_weight r19 k N n30) = some res → PD (dC, dI) A (w_X8_get cI cZ cQ cW z_o z_weight_a z_wants_a z_wantsMany_a z_st_a z_was_a z_images_a z_isKept_a z_told_a z_text_a z_saidWeight_a z_saidNights_a z_saidWants_a z_saidMany_a z_now_a z_gave_a z_at_a z_way_a z_bestWay_a z_made_a z_people z_known z_toldMany z_trace z_texted z_cursor z_start z_token z_number z_isWrong z_items z_saidPeople z_saidLaw z_ringed_71 z_lumps_71 z_st z_now_71 z_gave_71 z_wantsMany z_wants z_weight z_at_71) H → va_S A s.heap H locs → lv_has ls 7 [(0, .ref z_o), (1, .int x1), (2, .int x2), (3, .int r19), (4, .int y4_l30), (5, .int y5_l30)] → W p l e rm_X8_get s m args below meth c H locs 0 0 Q (F0 m 108 ls []) := by
                  intro H locs ls h hW hS hl
                  unfold f_X8_get_j108 at h
                  refine lv_iconst (pc := 108) (v := 0) hx hb (tb_at tk_X8_get 57 rfl) (by decide) ?_
                  exact w109 0 _ _ _ h hW hS (lv_sub hl [0, 1, 2, 3, 4, 5] rfl)
                refine lv_icmp_ne (pc := 83) (tgt := 108) hx hb (tb_at tk_X8_get 47 rfl) (by decide) (fun cc => ?_) (fun cc => ?_)
                · have h := it_f cc h
                  exact w108  _ _ _ h hW hS (lv_sub hl [0, 1, 2, 3, 4, 5] rfl)
                · have h := it_t cc h
                  refine lv_iload (pc := 86) hx hb (tb_at tk_X8_get 48 rfl) (lv_at hl 4 rfl) ?_
                  have w104 : ∀ (H : Heap) (locs : List Loc) (ls : Array Slot), f_X8_get_j104 y4_l30 y5_l30 z_ringed_71 z_lumps_71 z_now_71 z_gave_71 z_at_71 (f_X8_get_l30 x1 x2 z_people z_st z_wantsMany z_wants z_weight r19 k N n30) = some res → PD (dC, dI) A (w_X8_get cI cZ cQ cW z_o z_weight_a z_wants_a z_wantsMany_a z_st_a z_was_a z_images_a z_isKept_a z_told_a z_text_a z_saidWeight_a z_saidNights_a z_saidWants_a z_saidMany_a z_now_a z_gave_a z_at_a z_way_a z_bestWay_a z_made_a z_people z_known z_toldMany z_trace z_texted z_cursor z_start z_token z_number z_isWrong z_items z_saidPeople z_saidLaw z_ringed_71 z_lumps_71 z_st z_now_71 z_gave_71 z_wantsMany z_wants z_weight z_at_71) H → va_S A s.heap H locs → lv_has ls 7 [(0, .ref z_o), (1, .int x1), (2, .int x2), (3, .int r19), (4, .int y4_l30), (5, .int y5_l30)] → W p l e rm_X8_get s m args below meth c H locs 0 0 Q (F0 m 104 ls []) := by
                    intro H locs ls h hW hS hl
                    unfold f_X8_get_j104 at h
                    refine lv_iconst (pc := 104) (v := 1) hx hb (tb_at tk_X8_get 55 rfl) (by decide) ?_
                    refine lv_goto (pc := 105) (tgt := 109) hx hb (tb_at tk_X8_get 56 rfl) (by decide) ?_
                    exact w109 1 _ _ _ h hW hS (lv_sub hl [0, 1, 2, 3, 4, 5] rfl)
                  refine lv_if_lt (pc := 88) (tgt := 104) hx hb (tb_at tk_X8_get 49 rfl) (by decide) (fun cc => ?_) (fun cc => ?_)
                  · have h := it_t cc h
                    exact w104  _ _ _ h hW hS (lv_sub hl [0, 1, 2, 3, 4, 5] rfl)
                  · have h := it_f cc h
                    refine lv_iload (pc := 91) hx hb (tb_at tk_X8_get 50 rfl) (lv_at hl 5 rfl) ?_
                    refine k_call0 (pc := 93) B (k_runSi (rest := []) (host := "") B (c_X8_bits l dC dI cI cZ cQ cW   y5_l30 N _ res h) E0_st (fun _ _ _ => trivial) q_c_X8_bits q_m_X8_178 q_t_X8_bits q_n_X8 hd_X8_bits ⟨rfl, rfl⟩ ⟨Nat.le_of_ble_eq_true rfl, Nat.le_of_ble_eq_true rfl⟩ hW [] rfl (by decide +kernel) rfl hl.1 rfl (Nat.le_of_ble_eq_true rfl) (tb_at tk_X8_get 51 rfl) ⟨Nat.zero_le _, Nat.zero_le _⟩) hW hS (fun r93 u H locs h hW hS => ?_)
                    refine lv_iload (pc := 96) hx hb (tb_at tk_X8_get 52 rfl) (lv_at hl 4 rfl) ?_
                    refine k_call0 (pc := 98) B (k_runSi (rest := [.int r93]) (host := "") B (c_X8_bits l dC dI cI cZ cQ cW   y4_l30 N _ res h) E0_st (fun _ _ _ => trivial) q_c_X8_bits q_m_X8_178 q_t_X8_bits q_n_X8 hd_X8_bits ⟨rfl, rfl⟩ ⟨Nat.le_of_ble_eq_true rfl, Nat.le_of_ble_eq_true rfl⟩ hW [] rfl (by decide +kernel) rfl hl.1 rfl (Nat.le_of_ble_eq_true rfl) (tb_at tk_X8_get 53 rfl) ⟨Nat.zero_le _, Nat.zero_le _⟩) hW hS (fun r98 u H locs h hW hS => ?_)
                    refine lv_icmp_ge (pc := 101) (tgt := 108) hx hb (tb_at tk_X8_get 54 rfl) (by decide) (fun cc => ?_) (fun cc => ?_)
                    · have h := it_t cc h
                      exact w108  _ _ _ h hW hS (lv_sub hl [0, 1, 2, 3, 4, 5] rfl)
                    · have h := it_f cc h
                      exact w104  _ _ _ h hW hS (lv_sub hl [0, 1, 2, 3, 4, 5] rfl)
      exact w30 N (-9) 0 z_ringed z_lumps z_now z_gave z_at _ _ _ h hW hS (lv_sub hl [3, 4, 5, 2, 1, 0] rfl)
    · have h := it_t cc h
      refine lv_iconst (pc := 16) (v := (-1)) hx hb (tb_at tk_X8_get 8 rfl) (by decide) ?_
      exact hQ (-1) (z_ringed, z_lumps, z_now, z_gave, z_at) _ _ _ 17 rfl h hW hS (tb_at tk_X8_get 9 rfl)
def f_X8_most_e149 {ρ : Type} (x1 : Int32) (k : Int32 → Int32 → Int32 → (Nat → Int32) → (Nat → Int32) → (Nat → Int32) → Option ρ) (y3_e149 : Int32) (y4_e149 : Int32) (z_ringed_e149 : Int32) (z_lumps_e149 : Int32) (z_now_e149 : Nat → Int32) (z_gave_e149 : Nat → Int32) (z_at_e149 : Nat → Int32) : Option ρ := if x1 = 0 then (k y3_e149 z_ringed_e149 z_lumps_e149 z_now_e149 z_gave_e149 z_at_e149) else (k y4_e149 z_ringed_e149 z_lumps_e149 z_now_e149 z_gave_e149 z_at_e149)
def f_X8_most_j125 {ρ : Type} (y5_l27 : Int32) (y6_l27 : Int32) (z_ringed_59 : Int32) (z_lumps_59 : Int32) (z_now_59 : Nat → Int32) (z_gave_59 : Nat → Int32) (z_at_59 : Nat → Int32) (s0_j99 : Int32) (s0_j112 : Int32) (kb27 : Int32 → Int32 → Int32 → Int32 → Int32 → Int32 → (Nat → Int32) → (Nat → Int32) → (Nat → Int32) → Option ρ) (s0_j125 : Int32) : Option ρ := if s0_j99 = 0 then (kb27 s0_j112 s0_j125 y5_l27 (y6_l27 + 1) z_ringed_59 z_lumps_59 z_now_59 z_gave_59 z_at_59) else (kb27 s0_j112 s0_j125 z_lumps_59 (y6_l27 + 1) z_ringed_59 z_lumps_59 z_now_59 z_gave_59 z_at_59)
def f_X8_most_j112 {ρ : Type} (y4_l27 : Int32) (y5_l27 : Int32) (y6_l27 : Int32) (z_ringed_59 : Int32) (z_lumps_59 : Int32) (z_now_59 : Nat → Int32) (z_gave_59 : Nat → Int32) (z_at_59 : Nat → Int32) (r66 : Int32) (s0_j99 : Int32) (kb27 : Int32 → Int32 → Int32 → Int32 → Int32 → Int32 → (Nat → Int32) → (Nat → Int32) → (Nat → Int32) → Option ρ) (s0_j112 : Int32) : Option ρ := if s0_j99 = 0 then (f_X8_most_j125 y5_l27 y6_l27 z_ringed_59 z_lumps_59 z_now_59 z_gave_59 z_at_59 s0_j99 s0_j112 kb27 y4_l27) else (f_X8_most_j125 y5_l27 y6_l27 z_ringed_59 z_lumps_59 z_now_59 z_gave_59 z_at_59 s0_j99 s0_j112 kb27 r66)
def f_X8_most_j99 {ρ : Type} (y3_l27 : Int32) (y4_l27 : Int32) (y5_l27 : Int32) (y6_l27 : Int32) (z_ringed_59 : Int32) (z_lumps_59 : Int32) (z_now_59 : Nat → Int32) (z_gave_59 : Nat → Int32) (z_at_59 : Nat → Int32) (r66 : Int32) (kb27 : Int32 → Int32 → Int32 → Int32 → Int32 → Int32 → (Nat → Int32) → (Nat → Int32) → (Nat → Int32) → Option ρ) (s0_j99 : Int32) : Option ρ := if s0_j99 = 0 then (f_X8_most_j112 y4_l27 y5_l27 y6_l27 z_ringed_59 z_lumps_59 z_now_59 z_gave_59 z_at_59 r66 s0_j99 kb27 y3_l27) else (f_X8_most_j112 y4_l27 y5_l27 y6_l27 z_ringed_59 z_lumps_59 z_now_59 z_gave_59 z_at_59 r66 s0_j99 kb27 y6_l27)
def f_X8_most_j94 {ρ : Type} (y3_l27 : Int32) (y4_l27 : Int32) (y5_l27 : Int32) (y6_l27 : Int32) (z_ringed_59 : Int32) (z_lumps_59 : Int32) (z_now_59 : Nat → Int32) (z_gave_59 : Nat → Int32) (z_at_59 : Nat → Int32) (r66 : Int32) (kb27 : Int32 → Int32 → Int32 → Int32 → Int32 → Int32 → (Nat → Int32) → (Nat → Int32) → (Nat → Int32) → Option ρ) : Option ρ := f_X8_most_j99 y3_l27 y4_l27 y5_l27 y6_l27 z_ringed_59 z_lumps_59 z_now_59 z_gave_59 z_at_59 r66 kb27 1
def f_X8_most_j98 {ρ : Type} (y3_l27 : Int32) (y4_l27 : Int32) (y5_l27 : Int32) (y6_l27 : Int32) (z_ringed_59 : Int32) (z_lumps_59 : Int32) (z_now_59 : Nat → Int32) (z_gave_59 : Nat → Int32) (z_at_59 : Nat → Int32) (r66 : Int32) (kb27 : Int32 → Int32 → Int32 → Int32 → Int32 → Int32 → (Nat → Int32) → (Nat → Int32) → (Nat → Int32) → Option ρ) : Option ρ := f_X8_most_j99 y3_l27 y4_l27 y5_l27 y6_l27 z_ringed_59 z_lumps_59 z_now_59 z_gave_59 z_at_59 r66 kb27 0
def f_X8_most_l27 {ρ : Type} (z_people : Int32) (z_st : Nat → Int32) (z_wantsMany : Nat → Int32) (z_wants : Nat → Int32) (z_weight : Nat → Int32) (r12 : Int32) (k149 : Int32 → Int32 → Int32 → Int32 → (Nat → Int32) → (Nat → Int32) → (Nat → Int32) → Option ρ) (N : Nat) : Nat → Int32 → Int32 → Int32 → Int32 → Int32 → Int32 → (Nat → Int32) → (Nat → Int32) → (Nat → Int32) → Option ρ
  | 0, _, _, _, _, _, _, _, _, _ => none
  | n27 + 1, y3_l27, y4_l27, y5_l27, y6_l27, z_ringed_l27, z_lumps_l27, z_now_l27, z_gave_l27, z_at_l27 => f_X8_all N z_people (fun r30 => if r30 < y6_l27 then (k149 y3_l27 y4_l27 z_ringed_l27 z_lumps_l27 z_now_l27 z_gave_l27 z_at_l27) else (if (y6_l27 &&& (r12 ^^^ (-1))) = 0 then (f_X8_asItIs N z_st z_now_l27 (fun z_now_46 => ck (ivi (24 : Int32) 25) (f_X8_goesBy N z_people z_now_46 z_gave_l27 z_wantsMany z_wants z_weight z_at_l27 y6_l27 (z_st ((24 : Int32)).toNatClampNeg) (fun z_ringed_59 z_lumps_59 z_now_59 z_gave_59 z_at_59 => f_X8_bits N z_ringed_59 (fun r66 => if y4_l27 < r66 then (f_X8_most_j94 y3_l27 y4_l27 y5_l27 y6_l27 z_ringed_59 z_lumps_59 z_now_59 z_gave_59 z_at_59 r66 (f_X8_most_l27 z_people z_st z_wantsMany z_wants z_weight r12 k149 N n27) ) else (if r66 = y4_l27 then (if y5_l27 ≤ z_lumps_59 then (f_X8_most_j98 y3_l27 y4_l27 y5_l27 y6_l27 z_ringed_59 z_lumps_59 z_now_59 z_gave_59 z_at_59 r66 (f_X8_most_l27 z_people z_st z_wantsMany z_wants z_weight r12 k149 N n27) ) else (f_X8_most_j94 y3_l27 y4_l27 y5_l27 y6_l27 z_ringed_59 z_lumps_59 z_now_59 z_gave_59 z_at_59 r66 (f_X8_most_l27 z_people z_st z_wantsMany z_wants z_weight r12 k149 N n27) )) else (f_X8_most_j98 y3_l27 y4_l27 y5_l27 y6_l27 z_ringed_59 z_lumps_59 z_now_59 z_gave_59 z_at_59 r66 (f_X8_most_l27 z_people z_st z_wantsMany z_wants z_weight r12 k149 N n27) ))))))) else ((f_X8_most_l27 z_people z_st z_wantsMany z_wants z_weight r12 k149 N n27) y3_l27 y4_l27 y5_l27 (y6_l27 + 1) z_ringed_l27 z_lumps_l27 z_now_l27 z_gave_l27 z_at_l27)))
def f_X8_most {ρ : Type} (N : Nat) (z_people : Int32) (z_ringed : Int32) (z_lumps : Int32) (z_st : Nat → Int32) (z_now : Nat → Int32) (z_gave : Nat → Int32) (z_wantsMany : Nat → Int32) (z_wants : Nat → Int32) (z_weight : Nat → Int32) (z_at : Nat → Int32) (x1 : Int32) (k : Int32 → Int32 → Int32 → (Nat → Int32) → (Nat → Int32) → (Nat → Int32) → Option ρ) : Option ρ := f_X8_in N x1 0 1 (fun r3 => if r3 = 0 then (k (-1) z_ringed z_lumps z_now z_gave z_at) else (f_X8_able N z_people z_st (fun r12 => f_X8_most_l27 z_people z_st z_wantsMany z_wants z_weight r12 (fun y3_e149 y4_e149 z_ringed_e149 z_lumps_e149 z_now_e149 z_gave_e149 z_at_e149 => f_X8_most_e149 x1 k y3_e149 y4_e149 z_ringed_e149 z_lumps_e149 z_now_e149 z_gave_e149 z_at_e149) N N 0 (-1) 0 0 z_ringed z_lumps z_now z_gave z_at)))
abbrev w_X8_most (cI cZ cQ cW : ClassId) (z_o : Nat) (z_weight_a : Nat) (z_wants_a : Nat) (z_wantsMany_a : Nat) (z_st_a : Nat) (z_was_a : Nat) (z_images_a : Nat) (z_isKept_a : Nat) (z_told_a : Nat) (z_text_a : Nat) (z_saidWeight_a : Nat) (z_saidNights_a : Nat) (z_saidWants_a : Nat) (z_saidMany_a : Nat) (z_now_a : Nat) (z_gave_a : Nat) (z_at_a : Nat) (z_way_a : Nat) (z_bestWay_a : Nat) (z_made_a : Nat) (z_people : Int32) (z_known : Int32) (z_toldMany : Int32) (z_trace : Int64) (z_texted : Int32) (z_cursor : Int32) (z_start : Int32) (z_token : Int32) (z_number : Int32) (z_isWrong : Int32) (z_items : Int32) (z_saidPeople : Int32) (z_saidLaw : Int32) (z_ringed : Int32) (z_lumps : Int32) (z_st : Nat → Int32) (z_now : Nat → Int32) (z_gave : Nat → Int32) (z_wantsMany : Nat → Int32) (z_wants : Nat → Int32) (z_weight : Nat → Int32) (z_at : Nat → Int32) : va_W := [(z_o, .inr (8, [.int z_people, .ref z_weight_a, .ref z_wants_a, .ref z_wantsMany_a, .ref z_st_a, .ref z_was_a, .int z_known, .ref z_images_a, .ref z_isKept_a, .int z_toldMany, .ref z_told_a, .long z_trace, .ref z_text_a, .int z_texted, .int z_cursor, .int z_start, .int z_token, .int z_number, .int z_isWrong, .int z_items, .int z_saidPeople, .ref z_saidWeight_a, .ref z_saidNights_a, .ref z_saidWants_a, .ref z_saidMany_a, .int z_saidLaw, .ref z_now_a, .ref z_gave_a, .ref z_at_a, .int z_ringed, .int z_lumps, .ref z_way_a, .ref z_bestWay_a, .ref z_made_a])), (z_st_a, .inl (cI, 25, .inl z_st)), (z_now_a, .inl (cI, 25, .inl z_now)), (z_gave_a, .inl (cI, 6, .inl z_gave)), (z_wantsMany_a, .inl (cI, 6, .inl z_wantsMany)), (z_wants_a, .inl (cI, 24, .inl z_wants)), (z_weight_a, .inl (cI, 6, .inl z_weight)), (z_at_a, .inl (cI, 6, .inl z_at))]
abbrev rm_X8_most : Room := { frames := 4, cells := 0, slots := 0, locals := 101 }
set_option maxHeartbeats 4000000 in
set_option maxRecDepth 100000 in
theorem c_X8_most (l : Launch) (dC : Nat → ClassId) (dI : Nat → Nat → Nat) (cI cZ cQ cW : ClassId) (z_o : Nat) (z_weight_a : Nat) (z_wants_a : Nat) (z_wantsMany_a : Nat) (z_st_a : Nat) (z_was_a : Nat) (z_images_a : Nat) (z_isKept_a : Nat) (z_told_a : Nat) (z_text_a : Nat) (z_saidWeight_a : Nat) (z_saidNights_a : Nat) (z_saidWants_a : Nat) (z_saidMany_a : Nat) (z_now_a : Nat) (z_gave_a : Nat) (z_at_a : Nat) (z_way_a : Nat) (z_bestWay_a : Nat) (z_made_a : Nat) (z_people : Int32) (z_known : Int32) (z_toldMany : Int32) (z_trace : Int64) (z_texted : Int32) (z_cursor : Int32) (z_start : Int32) (z_token : Int32) (z_number : Int32) (z_isWrong : Int32) (z_items : Int32) (z_saidPeople : Int32) (z_saidLaw : Int32) (z_ringed : Int32) (z_lumps : Int32) (z_st : Nat → Int32) (z_now : Nat → Int32) (z_gave : Nat → Int32) (z_wantsMany : Nat → Int32) (z_wants : Nat → Int32) (z_weight : Nat → Int32) (z_at : Nat → Int32) (x1 : Int32) {ρ : Type} (N : Nat) (k : Int32 → Int32 → Int32 → (Nat → Int32) → (Nat → Int32) → (Nat → Int32) → Option ρ) (res : ρ) (h : f_X8_most N z_people z_ringed z_lumps z_st z_now z_gave z_wantsMany z_wants z_weight z_at x1 k = some res) : Ci l yX8_most (WS yX8_most cX8_most 9 (some .int)) rm_X8_most (dC, dI) (tysG cI cZ cQ cW) E0 [.ref z_o, .int x1] (w_X8_most cI cZ cQ cW z_o z_weight_a z_wants_a z_wantsMany_a z_st_a z_was_a z_images_a z_isKept_a z_told_a z_text_a z_saidWeight_a z_saidNights_a z_saidWants_a z_saidMany_a z_now_a z_gave_a z_at_a z_way_a z_bestWay_a z_made_a z_people z_known z_toldMany z_trace z_texted z_cursor z_start z_token z_number z_isWrong z_items z_saidPeople z_saidLaw z_ringed z_lumps z_st z_now z_gave z_wantsMany z_wants z_weight z_at) (fun (u : Int32 × Int32 × (Nat → Int32) × (Nat → Int32) × (Nat → Int32)) => (w_X8_most cI cZ cQ cW z_o z_weight_a z_wants_a z_wantsMany_a z_st_a z_was_a z_images_a z_isKept_a z_told_a z_text_a z_saidWeight_a z_saidNights_a z_saidWants_a z_saidMany_a z_now_a z_gave_a z_at_a z_way_a z_bestWay_a z_made_a z_people z_known z_toldMany z_trace z_texted z_cursor z_start z_token z_number z_isWrong z_items z_saidPeople z_saidLaw u.1 u.2.1 z_st u.2.2.1 u.2.2.2.1 z_wantsMany z_wants z_weight u.2.2.2.2)) (fun r u => k r u.1 u.2.1 u.2.2.1 u.2.2.2.1 u.2.2.2.2 = some res) := by
  refine Ci.of (cc := cX8_most) (n := 9) (by decide +kernel) (Nat.le_of_ble_eq_true rfl) ?_
  intro p e s m args below meth c A ls Q B hW hE hS hl hQ
  have hx := B.1
  have hb := B.2.1
  have hl : lv_has ls 9 [(0, .ref z_o), (1, .int x1)] := hl
  unfold f_X8_most at h
  refine lv_iload_n (pc := 0) hx hb (tb_at tk_X8_most 0 rfl) rfl (lv_at hl 1 rfl) ?_
  refine lv_iconst (pc := 1) (v := 0) hx hb (tb_at tk_X8_most 1 rfl) (by decide) ?_
  refine lv_iconst (pc := 2) (v := 1) hx hb (tb_at tk_X8_most 2 rfl) (by decide) ?_
  refine k_call0 (pc := 3) B (k_runSi (rest := []) (host := "") B (c_X8_in l dC dI cI cZ cQ cW   x1 0 1 N _ res h) E0_st (fun _ _ _ => trivial) q_c_X8_in q_m_X8_72 q_t_X8_in q_n_X8 hd_X8_in ⟨rfl, rfl⟩ ⟨Nat.le_of_ble_eq_true rfl, Nat.le_of_ble_eq_true rfl⟩ hW [] rfl (by decide +kernel) rfl hl.1 rfl (Nat.le_of_ble_eq_true rfl) (tb_at tk_X8_most 3 rfl) ⟨Nat.zero_le _, Nat.zero_le _⟩) hW hS (fun r3 u H locs h hW hS => ?_)
  refine lv_if_ne (pc := 6) (tgt := 11) hx hb (tb_at tk_X8_most 4 rfl) (by decide) (fun cc => ?_) (fun cc => ?_)
  · have h := it_f cc h
    refine lv_aload_n (pc := 11) hx hb (tb_at tk_X8_most 7 rfl) rfl (lv_at hl 0 rfl) ?_
    refine k_calli (pc := 12) B (k_runVi (rest := []) (C := RX8) B (c_X8_able l dC dI cI cZ cQ cW z_o z_weight_a z_wants_a z_wantsMany_a z_st_a z_was_a z_images_a z_isKept_a z_told_a z_text_a z_saidWeight_a z_saidNights_a z_saidWants_a z_saidMany_a z_now_a z_gave_a z_at_a z_way_a z_bestWay_a z_made_a z_people z_known z_toldMany z_trace z_texted z_cursor z_start z_token z_number z_isWrong z_items z_saidPeople z_saidLaw z_ringed z_lumps z_st  N _ res h) E0_st (fun _ _ _ => trivial) q_c_X8_able q_m_X8_171 q_i_X8_able q_s_X8_able q_n_X8 hd_X8_able ⟨rfl, rfl⟩ ⟨Nat.le_of_ble_eq_true rfl, Nat.le_of_ble_eq_true rfl⟩ hW [0, 1] rfl (by decide +kernel) (q0 := 0) (ci := 8) rfl rfl rfl hl.1 rfl (Nat.le_of_ble_eq_true rfl) (tb_at tk_X8_most 8 rfl) ⟨Nat.zero_le _, Nat.zero_le _⟩) hW hS [0, 1] rfl [z_o, z_st_a] rfl (fun _ => rfl) [some 0, some 1, none, none, none, none, none, none] (by decide +kernel) (fun _ => (w_X8_most cI cZ cQ cW z_o z_weight_a z_wants_a z_wantsMany_a z_st_a z_was_a z_images_a z_isKept_a z_told_a z_text_a z_saidWeight_a z_saidNights_a z_saidWants_a z_saidMany_a z_now_a z_gave_a z_at_a z_way_a z_bestWay_a z_made_a z_people z_known z_toldMany z_trace z_texted z_cursor z_start z_token z_number z_isWrong z_items z_saidPeople z_saidLaw z_ringed z_lumps z_st z_now z_gave z_wantsMany z_wants z_weight z_at)) (fun _ => rfl) (fun r12 u H locs h hW hS => ?_)
    have hW : PD (dC, dI) A (w_X8_most cI cZ cQ cW z_o z_weight_a z_wants_a z_wantsMany_a z_st_a z_was_a z_images_a z_isKept_a z_told_a z_text_a z_saidWeight_a z_saidNights_a z_saidWants_a z_saidMany_a z_now_a z_gave_a z_at_a z_way_a z_bestWay_a z_made_a z_people z_known z_toldMany z_trace z_texted z_cursor z_start z_token z_number z_isWrong z_items z_saidPeople z_saidLaw z_ringed z_lumps z_st z_now z_gave z_wantsMany z_wants z_weight z_at) H := hW
    refine lv_istore_n (pc := 15) (lv' := [(2, .int r12), (0, .ref z_o), (1, .int x1)]) hx hb (tb_at tk_X8_most 9 rfl) rfl hl (by decide) rfl (fun ls hl => ?_)
    refine lv_iconst (pc := 16) (v := 0) hx hb (tb_at tk_X8_most 10 rfl) (by decide) ?_
    refine lv_istore_n (pc := 17) (lv' := [(3, .int 0), (2, .int r12), (0, .ref z_o), (1, .int x1)]) hx hb (tb_at tk_X8_most 11 rfl) rfl hl (by decide) rfl (fun ls hl => ?_)
    refine lv_iconst (pc := 18) (v := (-1)) hx hb (tb_at tk_X8_most 12 rfl) (by decide) ?_
    refine lv_istore (pc := 19) (lv' := [(4, .int (-1)), (3, .int 0), (2, .int r12), (0, .ref z_o), (1, .int x1)]) hx hb (tb_at tk_X8_most 13 rfl) hl (by decide) rfl (fun ls hl => ?_)
    refine lv_iconst (pc := 21) (v := 0) hx hb (tb_at tk_X8_most 14 rfl) (by decide) ?_
    refine lv_istore (pc := 22) (lv' := [(5, .int 0), (4, .int (-1)), (3, .int 0), (2, .int r12), (0, .ref z_o), (1, .int x1)]) hx hb (tb_at tk_X8_most 15 rfl) hl (by decide) rfl (fun ls hl => ?_)
    refine lv_iconst (pc := 24) (v := 0) hx hb (tb_at tk_X8_most 16 rfl) (by decide) ?_
    refine lv_istore (pc := 25) (lv' := [(6, .int 0), (5, .int 0), (4, .int (-1)), (3, .int 0), (2, .int r12), (0, .ref z_o), (1, .int x1)]) hx hb (tb_at tk_X8_most 17 rfl) hl (by decide) rfl (fun ls hl => ?_)
    have w149 : ∀ (y3_e149 : Int32) (y4_e149 : Int32) (z_ringed_e149 : Int32) (z_lumps_e149 : Int32) (z_now_e149 : Nat → Int32) (z_gave_e149 : Nat → Int32) (z_at_e149 : Nat → Int32) (H : Heap) (locs : List Loc) (ls : Array Slot), f_X8_most_e149 x1 k y3_e149 y4_e149 z_ringed_e149 z_lumps_e149 z_now_e149 z_gave_e149 z_at_e149 = some res → PD (dC, dI) A (w_X8_most cI cZ cQ cW z_o z_weight_a z_wants_a z_wantsMany_a z_st_a z_was_a z_images_a z_isKept_a z_told_a z_text_a z_saidWeight_a z_saidNights_a z_saidWants_a z_saidMany_a z_now_a z_gave_a z_at_a z_way_a z_bestWay_a z_made_a z_people z_known z_toldMany z_trace z_texted z_cursor z_start z_token z_number z_isWrong z_items z_saidPeople z_saidLaw z_ringed_e149 z_lumps_e149 z_st z_now_e149 z_gave_e149 z_wantsMany z_wants z_weight z_at_e149) H → va_S A s.heap H locs → lv_has ls 9 [(1, .int x1), (3, .int y3_e149), (4, .int y4_e149)] → W p l e rm_X8_most s m args below meth c H locs 0 0 Q (F0 m 149 ls []) := by
      intro y3_e149 y4_e149 z_ringed_e149 z_lumps_e149 z_now_e149 z_gave_e149 z_at_e149 H locs ls h hW hS hl
      unfold f_X8_most_e149 at h
      refine lv_iload_n (pc := 149) hx hb (tb_at tk_X8_most 76 rfl) rfl (lv_at hl 0 rfl) ?_
      refine lv_if_ne (pc := 150) (tgt := 157) hx hb (tb_at tk_X8_most 77 rfl) (by decide) (fun cc => ?_) (fun cc => ?_)
      · have h := it_f cc h
        refine lv_iload (pc := 157) hx hb (tb_at tk_X8_most 80 rfl) (lv_at hl 2 rfl) ?_
        exact hQ y4_e149 (z_ringed_e149, z_lumps_e149, z_now_e149, z_gave_e149, z_at_e149) _ _ _ 159 rfl h hW hS (tb_at tk_X8_most 81 rfl)
      · have h := it_t cc h
        refine lv_iload_n (pc := 153) hx hb (tb_at tk_X8_most 78 rfl) rfl (lv_at hl 1 rfl) ?_
        refine lv_goto (pc := 154) (tgt := 159) hx hb (tb_at tk_X8_most 79 rfl) (by decide) ?_
        exact hQ y3_e149 (z_ringed_e149, z_lumps_e149, z_now_e149, z_gave_e149, z_at_e149) _ _ _ 159 rfl h hW hS (tb_at tk_X8_most 81 rfl)
    have w27 : ∀ (n : Nat), ∀ (y3_l27 : Int32) (y4_l27 : Int32) (y5_l27 : Int32) (y6_l27 : Int32) (z_ringed_l27 : Int32) (z_lumps_l27 : Int32) (z_now_l27 : Nat → Int32) (z_gave_l27 : Nat → Int32) (z_at_l27 : Nat → Int32) (H : Heap) (locs : List Loc) (ls : Array Slot), f_X8_most_l27 z_people z_st z_wantsMany z_wants z_weight r12 (fun y3_e149 y4_e149 z_ringed_e149 z_lumps_e149 z_now_e149 z_gave_e149 z_at_e149 => f_X8_most_e149 x1 k y3_e149 y4_e149 z_ringed_e149 z_lumps_e149 z_now_e149 z_gave_e149 z_at_e149) N n y3_l27 y4_l27 y5_l27 y6_l27 z_ringed_l27 z_lumps_l27 z_now_l27 z_gave_l27 z_at_l27 = some res → PD (dC, dI) A (w_X8_most cI cZ cQ cW z_o z_weight_a z_wants_a z_wantsMany_a z_st_a z_was_a z_images_a z_isKept_a z_told_a z_text_a z_saidWeight_a z_saidNights_a z_saidWants_a z_saidMany_a z_now_a z_gave_a z_at_a z_way_a z_bestWay_a z_made_a z_people z_known z_toldMany z_trace z_texted z_cursor z_start z_token z_number z_isWrong z_items z_saidPeople z_saidLaw z_ringed_l27 z_lumps_l27 z_st z_now_l27 z_gave_l27 z_wantsMany z_wants z_weight z_at_l27) H → va_S A s.heap H locs → lv_has ls 9 [(0, .ref z_o), (1, .int x1), (2, .int r12), (3, .int y3_l27), (4, .int y4_l27), (5, .int y5_l27), (6, .int y6_l27)] → W p l e rm_X8_most s m args below meth c H locs 0 0 Q (F0 m 27 ls []) := by
      intro n
      induction n with
      | zero => intro y3_l27 y4_l27 y5_l27 y6_l27 z_ringed_l27 z_lumps_l27 z_now_l27 z_gave_l27 z_at_l27 H locs ls h; exact no_n h
      | succ n27 ih27 =>
        intro y3_l27 y4_l27 y5_l27 y6_l27 z_ringed_l27 z_lumps_l27 z_now_l27 z_gave_l27 z_at_l27 H locs ls h hW hS hl
        rw [f_X8_most_l27] at h
        refine lv_iload (pc := 27) hx hb (tb_at tk_X8_most 18 rfl) (lv_at hl 6 rfl) ?_
        refine lv_aload_n (pc := 29) hx hb (tb_at tk_X8_most 19 rfl) rfl (lv_at hl 0 rfl) ?_
        refine k_calli (pc := 30) B (k_runVi (rest := [.int y6_l27]) (C := RX8) B (c_X8_all l dC dI cI cZ cQ cW z_o z_weight_a z_wants_a z_wantsMany_a z_st_a z_was_a z_images_a z_isKept_a z_told_a z_text_a z_saidWeight_a z_saidNights_a z_saidWants_a z_saidMany_a z_now_a z_gave_a z_at_a z_way_a z_bestWay_a z_made_a z_people z_known z_toldMany z_trace z_texted z_cursor z_start z_token z_number z_isWrong z_items z_saidPeople z_saidLaw z_ringed_l27 z_lumps_l27  N _ res h) E0_st (fun _ _ _ => trivial) q_c_X8_all q_m_X8_191 q_i_X8_all q_s_X8_all q_n_X8 hd_X8_all ⟨rfl, rfl⟩ ⟨Nat.le_of_ble_eq_true rfl, Nat.le_of_ble_eq_true rfl⟩ hW [0] rfl (by decide +kernel) (q0 := 0) (ci := 8) rfl rfl rfl hl.1 rfl (Nat.le_of_ble_eq_true rfl) (tb_at tk_X8_most 20 rfl) ⟨Nat.zero_le _, Nat.zero_le _⟩) hW hS [0] rfl [z_o] rfl (fun _ => rfl) [some 0, none, none, none, none, none, none, none] (by decide +kernel) (fun _ => (w_X8_most cI cZ cQ cW z_o z_weight_a z_wants_a z_wantsMany_a z_st_a z_was_a z_images_a z_isKept_a z_told_a z_text_a z_saidWeight_a z_saidNights_a z_saidWants_a z_saidMany_a z_now_a z_gave_a z_at_a z_way_a z_bestWay_a z_made_a z_people z_known z_toldMany z_trace z_texted z_cursor z_start z_token z_number z_isWrong z_items z_saidPeople z_saidLaw z_ringed_l27 z_lumps_l27 z_st z_now_l27 z_gave_l27 z_wantsMany z_wants z_weight z_at_l27)) (fun _ => rfl) (fun r30 u H locs h hW hS => ?_)
        have hW : PD (dC, dI) A (w_X8_most cI cZ cQ cW z_o z_weight_a z_wants_a z_wantsMany_a z_st_a z_was_a z_images_a z_isKept_a z_told_a z_text_a z_saidWeight_a z_saidNights_a z_saidWants_a z_saidMany_a z_now_a z_gave_a z_at_a z_way_a z_bestWay_a z_made_a z_people z_known z_toldMany z_trace z_texted z_cursor z_start z_token z_number z_isWrong z_items z_saidPeople z_saidLaw z_ringed_l27 z_lumps_l27 z_st z_now_l27 z_gave_l27 z_wantsMany z_wants z_weight z_at_l27) H := hW
        refine lv_icmp_gt (pc := 33) (tgt := 149) hx hb (tb_at tk_X8_most 21 rfl) (by decide) (fun cc => ?_) (fun cc => ?_)
        · have h := it_t cc h
          exact w149 y3_l27 y4_l27 z_ringed_l27 z_lumps_l27 z_now_l27 z_gave_l27 z_at_l27 _ _ _ h hW hS (lv_sub hl [1, 3, 4] rfl)
        · have h := it_f cc h
          refine lv_iload (pc := 36) hx hb (tb_at tk_X8_most 22 rfl) (lv_at hl 6 rfl) ?_
          refine lv_iload_n (pc := 38) hx hb (tb_at tk_X8_most 23 rfl) rfl (lv_at hl 2 rfl) ?_
          refine lv_iconst (pc := 39) (v := (-1)) hx hb (tb_at tk_X8_most 24 rfl) (by decide) ?_
          refine lv_ixor (pc := 40) hx hb (tb_at tk_X8_most 25 rfl) ?_
          refine lv_iand (pc := 41) hx hb (tb_at tk_X8_most 26 rfl) ?_
          refine lv_if_ne (pc := 42) (tgt := 143) hx hb (tb_at tk_X8_most 27 rfl) (by decide) (fun cc => ?_) (fun cc => ?_)
          · have h := it_f cc h
            refine lv_iinc (pc := 143) (v := y6_l27 + 1) (lv' := [(6, .int (y6_l27 + 1)), (0, .ref z_o), (1, .int x1), (2, .int r12), (3, .int y3_l27), (4, .int y4_l27), (5, .int y5_l27)]) hx hb (tb_at tk_X8_most 74 rfl) hl (k := 6) rfl rfl (by decide) rfl (fun ls hl => ?_)
            refine lv_goto (pc := 146) (tgt := 27) hx hb (tb_at tk_X8_most 75 rfl) (by decide) ?_
            exact ih27 y3_l27 y4_l27 y5_l27 (y6_l27 + 1) z_ringed_l27 z_lumps_l27 z_now_l27 z_gave_l27 z_at_l27 _ _ _ h hW hS (lv_sub hl [1, 2, 3, 4, 5, 6, 0] rfl)
          · have h := it_t cc h
            refine lv_aload_n (pc := 45) hx hb (tb_at tk_X8_most 28 rfl) rfl (lv_at hl 0 rfl) ?_
            refine k_callv (pc := 46) B (k_runVv (rest := []) (C := RX8) B (c_X8_asItIs l dC dI cI cZ cQ cW z_o z_weight_a z_wants_a z_wantsMany_a z_st_a z_was_a z_images_a z_isKept_a z_told_a z_text_a z_saidWeight_a z_saidNights_a z_saidWants_a z_saidMany_a z_now_a z_gave_a z_at_a z_way_a z_bestWay_a z_made_a z_people z_known z_toldMany z_trace z_texted z_cursor z_start z_token z_number z_isWrong z_items z_saidPeople z_saidLaw z_ringed_l27 z_lumps_l27 z_st z_now_l27  N _ res h) E0_st (fun _ _ _ => trivial) q_c_X8_asItIs q_m_X8_181 q_i_X8_asItIs q_s_X8_asItIs q_n_X8 hd_X8_asItIs ⟨rfl, rfl⟩ ⟨Nat.le_of_ble_eq_true rfl, Nat.le_of_ble_eq_true rfl⟩ hW [0, 1, 2] rfl (by decide +kernel) (q0 := 0) (ci := 8) rfl rfl rfl hl.1 rfl (Nat.le_of_ble_eq_true rfl) (tb_at tk_X8_most 29 rfl) ⟨Nat.zero_le _, Nat.zero_le _⟩) hW hS [0, 1, 2] rfl [z_o, z_st_a, z_now_a] rfl (fun _ => rfl) [some 0, some 1, some 2, none, none, none, none, none] (by decide +kernel) (fun u => (w_X8_most cI cZ cQ cW z_o z_weight_a z_wants_a z_wantsMany_a z_st_a z_was_a z_images_a z_isKept_a z_told_a z_text_a z_saidWeight_a z_saidNights_a z_saidWants_a z_saidMany_a z_now_a z_gave_a z_at_a z_way_a z_bestWay_a z_made_a z_people z_known z_toldMany z_trace z_texted z_cursor z_start z_token z_number z_isWrong z_items z_saidPeople z_saidLaw z_ringed_l27 z_lumps_l27 z_st u z_gave_l27 z_wantsMany z_wants z_weight z_at_l27)) (fun _ => rfl) (fun u H locs h hW hS => ?_)
            obtain ⟨z_now_46, rfl⟩ : ∃ z9, z9 = u := ⟨_, rfl⟩
            have hW : PD (dC, dI) A (w_X8_most cI cZ cQ cW z_o z_weight_a z_wants_a z_wantsMany_a z_st_a z_was_a z_images_a z_isKept_a z_told_a z_text_a z_saidWeight_a z_saidNights_a z_saidWants_a z_saidMany_a z_now_a z_gave_a z_at_a z_way_a z_bestWay_a z_made_a z_people z_known z_toldMany z_trace z_texted z_cursor z_start z_token z_number z_isWrong z_items z_saidPeople z_saidLaw z_ringed_l27 z_lumps_l27 z_st z_now_46 z_gave_l27 z_wantsMany z_wants z_weight z_at_l27) H := hW
            refine lv_aload_n (pc := 49) hx hb (tb_at tk_X8_most 30 rfl) rfl (lv_at hl 0 rfl) ?_
            refine lv_iload (pc := 50) hx hb (tb_at tk_X8_most 31 rfl) (lv_at hl 6 rfl) ?_
            refine lv_aload_n (pc := 52) hx hb (tb_at tk_X8_most 32 rfl) rfl (lv_at hl 0 rfl) ?_
            refine k_get (pc := 53) (v := .ref z_st_a) (T := TX8) B inG8 hW 0 rfl rfl 4 (by decide) q_f_X8_19 rfl rfl (tb_at tk_X8_most 33 rfl) ?_
            refine lv_bipush (pc := 56) (v := 24) hx hb (tb_at tk_X8_most 34 rfl) (by decide) ?_
            have ii := ivi_in (ck_l h)
            have h := ck_r h
            refine k_iald (pc := 58) B hW 1 0 rfl rfl ii (tb_at tk_X8_most 35 rfl) ?_
            refine k_callv (pc := 59) B (k_runVv (rest := []) (C := RX8) B (c_X8_goesBy l dC dI cI cZ cQ cW z_o z_weight_a z_wants_a z_wantsMany_a z_st_a z_was_a z_images_a z_isKept_a z_told_a z_text_a z_saidWeight_a z_saidNights_a z_saidWants_a z_saidMany_a z_now_a z_gave_a z_at_a z_way_a z_bestWay_a z_made_a z_people z_known z_toldMany z_trace z_texted z_cursor z_start z_token z_number z_isWrong z_items z_saidPeople z_saidLaw z_ringed_l27 z_lumps_l27 z_now_46 z_gave_l27 z_wantsMany z_wants z_weight z_at_l27 y6_l27 (z_st ((24 : Int32)).toNatClampNeg) N _ res h) E0_st (fun _ _ _ => trivial) q_c_X8_goesBy q_m_X8_184 q_i_X8_goesBy q_s_X8_goesBy q_n_X8 hd_X8_goesBy ⟨rfl, rfl⟩ ⟨Nat.le_of_ble_eq_true rfl, Nat.le_of_ble_eq_true rfl⟩ hW [0, 2, 3, 4, 5, 6, 7] rfl (by decide +kernel) (q0 := 0) (ci := 8) rfl rfl rfl hl.1 rfl (Nat.le_of_ble_eq_true rfl) (tb_at tk_X8_most 36 rfl) ⟨Nat.zero_le _, Nat.zero_le _⟩) hW hS [0, 2, 3, 4, 5, 6, 7] rfl [z_o, z_now_a, z_gave_a, z_wantsMany_a, z_wants_a, z_weight_a, z_at_a] rfl (fun _ => rfl) [some 0, none, some 1, some 2, some 3, some 4, some 5, some 6] (by decide +kernel) (fun u => (w_X8_most cI cZ cQ cW z_o z_weight_a z_wants_a z_wantsMany_a z_st_a z_was_a z_images_a z_isKept_a z_told_a z_text_a z_saidWeight_a z_saidNights_a z_saidWants_a z_saidMany_a z_now_a z_gave_a z_at_a z_way_a z_bestWay_a z_made_a z_people z_known z_toldMany z_trace z_texted z_cursor z_start z_token z_number z_isWrong z_items z_saidPeople z_saidLaw u.1 u.2.1 z_st u.2.2.1 u.2.2.2.1 z_wantsMany z_wants z_weight u.2.2.2.2)) (fun _ => rfl) (fun u H locs h hW hS => ?_)
            obtain ⟨z_ringed_59, z_lumps_59, z_now_59, z_gave_59, z_at_59⟩ := u
            dsimp only at h
            have hW : PD (dC, dI) A (w_X8_most cI cZ cQ cW z_o z_weight_a z_wants_a z_wantsMany_a z_st_a z_was_a z_images_a z_isKept_a z_told_a z_text_a z_saidWeight_a z_saidNights_a z_saidWants_a z_saidMany_a z_now_a z_gave_a z_at_a z_way_a z_bestWay_a z_made_a z_people z_known z_toldMany z_trace z_texted z_cursor z_start z_token z_number z_isWrong z_items z_saidPeople z_saidLaw z_ringed_59 z_lumps_59 z_st z_now_59 z_gave_59 z_wantsMany z_wants z_weight z_at_59) H := hW
            refine lv_aload_n (pc := 62) hx hb (tb_at tk_X8_most 37 rfl) rfl (lv_at hl 0 rfl) ?_
            refine k_get (pc := 63) (v := .int z_ringed_59) (T := TX8) B inG8 hW 0 rfl rfl 29 (by decide) q_f_X8_155 rfl rfl (tb_at tk_X8_most 38 rfl) ?_
            refine k_call0 (pc := 66) B (k_runSi (rest := []) (host := "") B (c_X8_bits l dC dI cI cZ cQ cW   z_ringed_59 N _ res h) E0_st (fun _ _ _ => trivial) q_c_X8_bits q_m_X8_178 q_t_X8_bits q_n_X8 hd_X8_bits ⟨rfl, rfl⟩ ⟨Nat.le_of_ble_eq_true rfl, Nat.le_of_ble_eq_true rfl⟩ hW [] rfl (by decide +kernel) rfl hl.1 rfl (Nat.le_of_ble_eq_true rfl) (tb_at tk_X8_most 39 rfl) ⟨Nat.zero_le _, Nat.zero_le _⟩) hW hS (fun r66 u H locs h hW hS => ?_)
            refine lv_istore (pc := 69) (lv' := [(7, .int r66), (0, .ref z_o), (1, .int x1), (2, .int r12), (3, .int y3_l27), (4, .int y4_l27), (5, .int y5_l27), (6, .int y6_l27)]) hx hb (tb_at tk_X8_most 40 rfl) hl (by decide) rfl (fun ls hl => ?_)
            refine lv_iload (pc := 71) hx hb (tb_at tk_X8_most 41 rfl) (lv_at hl 0 rfl) ?_
            refine lv_iload (pc := 73) hx hb (tb_at tk_X8_most 42 rfl) (lv_at hl 5 rfl) ?_
            have w99 : ∀ (s0_j99 : Int32) (H : Heap) (locs : List Loc) (ls : Array Slot), f_X8_most_j99 y3_l27 y4_l27 y5_l27 y6_l27 z_ringed_59 z_lumps_59 z_now_59 z_gave_59 z_at_59 r66 (f_X8_most_l27 z_people z_st z_wantsMany z_wants z_weight r12 (fun y3_e149 y4_e149 z_ringed_e149 z_lumps_e149 z_now_e149 z_gave_e149 z_at_e149 => f_X8_most_e149 x1 k y3_e149 y4_e149 z_ringed_e149 z_lumps_e149 z_now_e149 z_gave_e149 z_at_e149) N n27) s0_j99 = some res → PD (dC, dI) A (w_X8_most cI cZ cQ cW z_o z_weight_a z_wants_a z_wantsMany_a z_st_a z_was_a z_images_a z_isKept_a z_told_a z_text_a z_saidWeight_a z_saidNights_a z_saidWants_a z_saidMany_a z_now_a z_gave_a z_at_a z_way_a z_bestWay_a z_made_a z_people z_known z_toldMany z_trace z_texted z_cursor z_start z_token z_number z_isWrong z_items z_saidPeople z_saidLaw z_ringed_59 z_lumps_59 z_st z_now_59 z_gave_59 z_wantsMany z_wants z_weight z_at_59) H → va_S A s.heap H locs → lv_has ls 9 [(0, .ref z_o), (1, .int x1), (2, .int r12), (3, .int y3_l27), (4, .int y4_l27), (5, .int y5_l27), (6, .int y6_l27), (7, .int r66)] → W p l e rm_X8_most s m args below meth c H locs 0 0 Q (F0 m 99 ls [.int s0_j99]) := by
              intro s0_j99 H locs ls h hW hS hl
              unfold f_X8_most_j99 at h
              refine lv_istore (pc := 99) (lv' := [(8, .int s0_j99), (0, .ref z_o), (1, .int x1), (2, .int r12), (3, .int y3_l27), (4, .int y4_l27), (5, .int y5_l27), (6, .int y6_l27), (7, .int r66)]) hx hb (tb_at tk_X8_most 54 rfl) hl (by decide) rfl (fun ls hl => ?_)
              refine lv_iload (pc := 101) hx hb (tb_at tk_X8_most 55 rfl) (lv_at hl 0 rfl) ?_
              have w112 : ∀ (s0_j112 : Int32) (H : Heap) (locs : List Loc) (ls : Array Slot), f_X8_most_j112 y4_l27 y5_l27 y6_l27 z_ringed_59 z_lumps_59 z_now_59 z_gave_59 z_at_59 r66 s0_j99 (f_X8_most_l27 z_people z_st z_wantsMany z_wants z_weight r12 (fun y3_e149 y4_e149 z_ringed_e149 z_lumps_e149 z_now_e149 z_gave_e149 z_at_e149 => f_X8_most_e149 x1 k y3_e149 y4_e149 z_ringed_e149 z_lumps_e149 z_now_e149 z_gave_e149 z_at_e149) N n27) s0_j112 = some res → PD (dC, dI) A (w_X8_most cI cZ cQ cW z_o z_weight_a z_wants_a z_wantsMany_a z_st_a z_was_a z_images_a z_isKept_a z_told_a z_text_a z_saidWeight_a z_saidNights_a z_saidWants_a z_saidMany_a z_now_a z_gave_a z_at_a z_way_a z_bestWay_a z_made_a z_people z_known z_toldMany z_trace z_texted z_cursor z_start z_token z_number z_isWrong z_items z_saidPeople z_saidLaw z_ringed_59 z_lumps_59 z_st z_now_59 z_gave_59 z_wantsMany z_wants z_weight z_at_59) H → va_S A s.heap H locs → lv_has ls 9 [(0, .ref z_o), (1, .int x1), (2, .int r12), (4, .int y4_l27), (5, .int y5_l27), (6, .int y6_l27), (7, .int r66), (8, .int s0_j99)] → W p l e rm_X8_most s m args below meth c H locs 0 0 Q (F0 m 112 ls [.int s0_j112]) := by
                intro s0_j112 H locs ls h hW hS hl
                unfold f_X8_most_j112 at h
                refine lv_istore_n (pc := 112) (lv' := [(3, .int s0_j112), (0, .ref z_o), (1, .int x1), (2, .int r12), (4, .int y4_l27), (5, .int y5_l27), (6, .int y6_l27), (7, .int r66), (8, .int s0_j99)]) hx hb (tb_at tk_X8_most 60 rfl) rfl hl (by decide) rfl (fun ls hl => ?_)
                refine lv_iload (pc := 113) hx hb (tb_at tk_X8_most 61 rfl) (lv_at hl 8 rfl) ?_
                have w125 : ∀ (s0_j125 : Int32) (H : Heap) (locs : List Loc) (ls : Array Slot), f_X8_most_j125 y5_l27 y6_l27 z_ringed_59 z_lumps_59 z_now_59 z_gave_59 z_at_59 s0_j99 s0_j112 (f_X8_most_l27 z_people z_st z_wantsMany z_wants z_weight r12 (fun y3_e149 y4_e149 z_ringed_e149 z_lumps_e149 z_now_e149 z_gave_e149 z_at_e149 => f_X8_most_e149 x1 k y3_e149 y4_e149 z_ringed_e149 z_lumps_e149 z_now_e149 z_gave_e149 z_at_e149) N n27) s0_j125 = some res → PD (dC, dI) A (w_X8_most cI cZ cQ cW z_o z_weight_a z_wants_a z_wantsMany_a z_st_a z_was_a z_images_a z_isKept_a z_told_a z_text_a z_saidWeight_a z_saidNights_a z_saidWants_a z_saidMany_a z_now_a z_gave_a z_at_a z_way_a z_bestWay_a z_made_a z_people z_known z_toldMany z_trace z_texted z_cursor z_start z_token z_number z_isWrong z_items z_saidPeople z_saidLaw z_ringed_59 z_lumps_59 z_st z_now_59 z_gave_59 z_wantsMany z_wants z_weight z_at_59) H → va_S A s.heap H locs → lv_has ls 9 [(0, .ref z_o), (1, .int x1), (2, .int r12), (3, .int s0_j112), (5, .int y5_l27), (6, .int y6_l27), (8, .int s0_j99)] → W p l e rm_X8_most s m args below meth c H locs 0 0 Q (F0 m 125 ls [.int s0_j125]) := by
                  intro s0_j125 H locs ls h hW hS hl
                  unfold f_X8_most_j125 at h
                  refine lv_istore (pc := 125) (lv' := [(4, .int s0_j125), (0, .ref z_o), (1, .int x1), (2, .int r12), (3, .int s0_j112), (5, .int y5_l27), (6, .int y6_l27), (8, .int s0_j99)]) hx hb (tb_at tk_X8_most 66 rfl) hl (by decide) rfl (fun ls hl => ?_)
                  refine lv_iload (pc := 127) hx hb (tb_at tk_X8_most 67 rfl) (lv_at hl 7 rfl) ?_
                  refine lv_if_eq (pc := 129) (tgt := 139) hx hb (tb_at tk_X8_most 68 rfl) (by decide) (fun cc => ?_) (fun cc => ?_)
                  · have h := it_t cc h
                    refine lv_iload (pc := 139) hx hb (tb_at tk_X8_most 72 rfl) (lv_at hl 5 rfl) ?_
                    refine lv_istore (pc := 141) (lv' := [(5, .int y5_l27), (4, .int s0_j125), (0, .ref z_o), (1, .int x1), (2, .int r12), (3, .int s0_j112), (6, .int y6_l27), (8, .int s0_j99)]) hx hb (tb_at tk_X8_most 73 rfl) hl (by decide) rfl (fun ls hl => ?_)
                    refine lv_iinc (pc := 143) (v := y6_l27 + 1) (lv' := [(6, .int (y6_l27 + 1)), (5, .int y5_l27), (4, .int s0_j125), (0, .ref z_o), (1, .int x1), (2, .int r12), (3, .int s0_j112), (8, .int s0_j99)]) hx hb (tb_at tk_X8_most 74 rfl) hl (k := 6) rfl rfl (by decide) rfl (fun ls hl => ?_)
                    refine lv_goto (pc := 146) (tgt := 27) hx hb (tb_at tk_X8_most 75 rfl) (by decide) ?_
                    exact ih27 s0_j112 s0_j125 y5_l27 (y6_l27 + 1) z_ringed_59 z_lumps_59 z_now_59 z_gave_59 z_at_59 _ _ _ h hW hS (lv_sub hl [3, 4, 5, 6, 2, 1, 0] rfl)
                  · have h := it_f cc h
                    refine lv_aload_n (pc := 132) hx hb (tb_at tk_X8_most 69 rfl) rfl (lv_at hl 1 rfl) ?_
                    refine k_get (pc := 133) (v := .int z_lumps_59) (T := TX8) B inG8 hW 0 rfl rfl 30 (by decide) q_f_X8_152 rfl rfl (tb_at tk_X8_most 70 rfl) ?_
                    refine lv_goto (pc := 136) (tgt := 141) hx hb (tb_at tk_X8_most 71 rfl) (by decide) ?_
                    refine lv_istore (pc := 141) (lv' := [(5, .int z_lumps_59), (4, .int s0_j125), (0, .ref z_o), (1, .int x1), (2, .int r12), (3, .int s0_j112), (6, .int y6_l27), (8, .int s0_j99)]) hx hb (tb_at tk_X8_most 73 rfl) hl (by decide) rfl (fun ls hl => ?_)
                    refine lv_iinc (pc := 143) (v := y6_l27 + 1) (lv' := [(6, .int (y6_l27 + 1)), (5, .int z_lumps_59), (4, .int s0_j125), (0, .ref z_o), (1, .int x1), (2, .int r12), (3, .int s0_j112), (8, .int s0_j99)]) hx hb (tb_at tk_X8_most 74 rfl) hl (k := 6) rfl rfl (by decide) rfl (fun ls hl => ?_)
                    refine lv_goto (pc := 146) (tgt := 27) hx hb (tb_at tk_X8_most 75 rfl) (by decide) ?_
                    exact ih27 s0_j112 s0_j125 z_lumps_59 (y6_l27 + 1) z_ringed_59 z_lumps_59 z_now_59 z_gave_59 z_at_59 _ _ _ h hW hS (lv_sub hl [3, 4, 5, 6, 2, 1, 0] rfl)
                refine lv_if_eq (pc := 115) (tgt := 123) hx hb (tb_at tk_X8_most 62 rfl) (by decide) (fun cc => ?_) (fun cc => ?_)
                · have h := it_t cc h
                  refine lv_iload (pc := 123) hx hb (tb_at tk_X8_most 65 rfl) (lv_at hl 4 rfl) ?_
                  exact w125 y4_l27 _ _ _ h hW hS (lv_sub hl [1, 2, 3, 0, 5, 6, 8] rfl)
                · have h := it_f cc h
                  refine lv_iload (pc := 118) hx hb (tb_at tk_X8_most 63 rfl) (lv_at hl 7 rfl) ?_
                  refine lv_goto (pc := 120) (tgt := 125) hx hb (tb_at tk_X8_most 64 rfl) (by decide) ?_
                  exact w125 r66 _ _ _ h hW hS (lv_sub hl [1, 2, 3, 0, 5, 6, 8] rfl)
              refine lv_if_eq (pc := 103) (tgt := 111) hx hb (tb_at tk_X8_most 56 rfl) (by decide) (fun cc => ?_) (fun cc => ?_)
              · have h := it_t cc h
                refine lv_iload_n (pc := 111) hx hb (tb_at tk_X8_most 59 rfl) rfl (lv_at hl 4 rfl) ?_
                exact w112 y3_l27 _ _ _ h hW hS (lv_sub hl [1, 2, 3, 5, 6, 7, 8, 0] rfl)
              · have h := it_f cc h
                refine lv_iload (pc := 106) hx hb (tb_at tk_X8_most 57 rfl) (lv_at hl 7 rfl) ?_
                refine lv_goto (pc := 108) (tgt := 112) hx hb (tb_at tk_X8_most 58 rfl) (by decide) ?_
                exact w112 y6_l27 _ _ _ h hW hS (lv_sub hl [1, 2, 3, 5, 6, 7, 8, 0] rfl)
            have w94 : ∀ (H : Heap) (locs : List Loc) (ls : Array Slot), f_X8_most_j94 y3_l27 y4_l27 y5_l27 y6_l27 z_ringed_59 z_lumps_59 z_now_59 z_gave_59 z_at_59 r66 (f_X8_most_l27 z_people z_st z_wantsMany z_wants z_weight r12 (fun y3_e149 y4_e149 z_ringed_e149 z_lumps_e149 z_now_e149 z_gave_e149 z_at_e149 => f_X8_most_e149 x1 k y3_e149 y4_e149 z_ringed_e149 z_lumps_e149 z_now_e149 z_gave_e149 z_at_e149) N n27) = some res → PD (dC, dI) A (w_X8_most cI cZ cQ cW z_o z_weight_a z_wants_a z_wantsMany_a z_st_a z_was_a z_images_a z_isKept_a z_told_a z_text_a z_saidWeight_a z_saidNights_a z_saidWants_a z_saidMany_a z_now_a z_gave_a z_at_a z_way_a z_bestWay_a z_made_a z_people z_known z_toldMany z_trace z_texted z_cursor z_start z_token z_number z_isWrong z_items z_saidPeople z_saidLaw z_ringed_59 z_lumps_59 z_st z_now_59 z_gave_59 z_wantsMany z_wants z_weight z_at_59) H → va_S A s.heap H locs → lv_has ls 9 [(0, .ref z_o), (1, .int x1), (2, .int r12), (3, .int y3_l27), (4, .int y4_l27), (5, .int y5_l27), (6, .int y6_l27), (7, .int r66)] → W p l e rm_X8_most s m args below meth c H locs 0 0 Q (F0 m 94 ls []) := by
              intro H locs ls h hW hS hl
              unfold f_X8_most_j94 at h
              refine lv_iconst (pc := 94) (v := 1) hx hb (tb_at tk_X8_most 51 rfl) (by decide) ?_
              refine lv_goto (pc := 95) (tgt := 99) hx hb (tb_at tk_X8_most 52 rfl) (by decide) ?_
              exact w99 1 _ _ _ h hW hS (lv_sub hl [0, 1, 2, 3, 4, 5, 6, 7] rfl)
            refine lv_icmp_gt (pc := 75) (tgt := 94) hx hb (tb_at tk_X8_most 43 rfl) (by decide) (fun cc => ?_) (fun cc => ?_)
            · have h := it_t cc h
              exact w94  _ _ _ h hW hS (lv_sub hl [1, 2, 3, 4, 5, 6, 7, 0] rfl)
            · have h := it_f cc h
              refine lv_iload (pc := 78) hx hb (tb_at tk_X8_most 44 rfl) (lv_at hl 0 rfl) ?_
              refine lv_iload (pc := 80) hx hb (tb_at tk_X8_most 45 rfl) (lv_at hl 5 rfl) ?_
              have w98 : ∀ (H : Heap) (locs : List Loc) (ls : Array Slot), f_X8_most_j98 y3_l27 y4_l27 y5_l27 y6_l27 z_ringed_59 z_lumps_59 z_now_59 z_gave_59 z_at_59 r66 (f_X8_most_l27 z_people z_st z_wantsMany z_wants z_weight r12 (fun y3_e149 y4_e149 z_ringed_e149 z_lumps_e149 z_now_e149 z_gave_e149 z_at_e149 => f_X8_most_e149 x1 k y3_e149 y4_e149 z_ringed_e149 z_lumps_e149 z_now_e149 z_gave_e149 z_at_e149) N n27) = some res → PD (dC, dI) A (w_X8_most cI cZ cQ cW z_o z_weight_a z_wants_a z_wantsMany_a z_st_a z_was_a z_images_a z_isKept_a z_told_a z_text_a z_saidWeight_a z_saidNights_a z_saidWants_a z_saidMany_a z_now_a z_gave_a z_at_a z_way_a z_bestWay_a z_made_a z_people z_known z_toldMany z_trace z_texted z_cursor z_start z_token z_number z_isWrong z_items z_saidPeople z_saidLaw z_ringed_59 z_lumps_59 z_st z_now_59 z_gave_59 z_wantsMany z_wants z_weight z_at_59) H → va_S A s.heap H locs → lv_has ls 9 [(0, .ref z_o), (1, .int x1), (2, .int r12), (3, .int y3_l27), (4, .int y4_l27), (5, .int y5_l27), (6, .int y6_l27), (7, .int r66)] → W p l e rm_X8_most s m args below meth c H locs 0 0 Q (F0 m 98 ls []) := by
                intro H locs ls h hW hS hl
                unfold f_X8_most_j98 at h
                refine lv_iconst (pc := 98) (v := 0) hx hb (tb_at tk_X8_most 53 rfl) (by decide) ?_
                exact w99 0 _ _ _ h hW hS (lv_sub hl [0, 1, 2, 3, 4, 5, 6, 7] rfl)
              refine lv_icmp_ne (pc := 82) (tgt := 98) hx hb (tb_at tk_X8_most 46 rfl) (by decide) (fun cc => ?_) (fun cc => ?_)
              · have h := it_f cc h
                exact w98  _ _ _ h hW hS (lv_sub hl [1, 2, 3, 4, 5, 6, 7, 0] rfl)
              · have h := it_t cc h
                refine lv_aload_n (pc := 85) hx hb (tb_at tk_X8_most 47 rfl) rfl (lv_at hl 1 rfl) ?_
                refine k_get (pc := 86) (v := .int z_lumps_59) (T := TX8) B inG8 hW 0 rfl rfl 30 (by decide) q_f_X8_152 rfl rfl (tb_at tk_X8_most 48 rfl) ?_
                refine lv_iload (pc := 89) hx hb (tb_at tk_X8_most 49 rfl) (lv_at hl 6 rfl) ?_
                refine lv_icmp_ge (pc := 91) (tgt := 98) hx hb (tb_at tk_X8_most 50 rfl) (by decide) (fun cc => ?_) (fun cc => ?_)
                · have h := it_t cc h
                  exact w98  _ _ _ h hW hS (lv_sub hl [1, 2, 3, 4, 5, 6, 7, 0] rfl)
                · have h := it_f cc h
                  exact w94  _ _ _ h hW hS (lv_sub hl [1, 2, 3, 4, 5, 6, 7, 0] rfl)
    exact w27 N 0 (-1) 0 0 z_ringed z_lumps z_now z_gave z_at _ _ _ h hW hS (lv_sub hl [5, 6, 4, 3, 2, 1, 0] rfl)
  · have h := it_t cc h
    refine lv_iconst (pc := 9) (v := (-1)) hx hb (tb_at tk_X8_most 5 rfl) (by decide) ?_
    exact hQ (-1) (z_ringed, z_lumps, z_now, z_gave, z_at) _ _ _ 10 rfl h hW hS (tb_at tk_X8_most 6 rfl)
def f_X8_isWanted_j35 {ρ : Type} (y4_l5 : Int32) (kb5 : Int32 → Int32 → Option ρ) : Option ρ := kb5 1 (y4_l5 + 1)
def f_X8_isWanted_l5 {ρ : Type} (x1 : Int32) (x2 : Int32) (z_wantsMany : Nat → Int32) (z_wants : Nat → Int32) (k : Int32 → Option ρ) : Nat → Int32 → Int32 → Option ρ
  | 0, _, _ => none
  | n5 + 1, y3_l5, y4_l5 => ck (ivi x1 6) (if (z_wantsMany (x1).toNatClampNeg) ≤ y4_l5 then (ck (isZ y3_l5) (k y3_l5)) else (if y3_l5 = 0 then (ck (ivi (((4 : Int32) * x1) + y4_l5) 24) (if (z_wants (((4 : Int32) * x1) + y4_l5).toNatClampNeg) = x2 then (f_X8_isWanted_j35 y4_l5 (f_X8_isWanted_l5 x1 x2 z_wantsMany z_wants k n5) ) else ((f_X8_isWanted_l5 x1 x2 z_wantsMany z_wants k n5) 0 (y4_l5 + 1)))) else (f_X8_isWanted_j35 y4_l5 (f_X8_isWanted_l5 x1 x2 z_wantsMany z_wants k n5) )))
def f_X8_isWanted {ρ : Type} (N : Nat) (z_wantsMany : Nat → Int32) (z_wants : Nat → Int32) (x1 : Int32) (x2 : Int32) (k : Int32 → Option ρ) : Option ρ := f_X8_isWanted_l5 x1 x2 z_wantsMany z_wants k N 0 0
abbrev w_X8_isWanted (cI cZ cQ cW : ClassId) (z_o : Nat) (z_weight_a : Nat) (z_wants_a : Nat) (z_wantsMany_a : Nat) (z_st_a : Nat) (z_was_a : Nat) (z_images_a : Nat) (z_isKept_a : Nat) (z_told_a : Nat) (z_text_a : Nat) (z_saidWeight_a : Nat) (z_saidNights_a : Nat) (z_saidWants_a : Nat) (z_saidMany_a : Nat) (z_now_a : Nat) (z_gave_a : Nat) (z_at_a : Nat) (z_way_a : Nat) (z_bestWay_a : Nat) (z_made_a : Nat) (z_people : Int32) (z_known : Int32) (z_toldMany : Int32) (z_trace : Int64) (z_texted : Int32) (z_cursor : Int32) (z_start : Int32) (z_token : Int32) (z_number : Int32) (z_isWrong : Int32) (z_items : Int32) (z_saidPeople : Int32) (z_saidLaw : Int32) (z_ringed : Int32) (z_lumps : Int32) (z_wantsMany : Nat → Int32) (z_wants : Nat → Int32) : va_W := [(z_o, .inr (8, [.int z_people, .ref z_weight_a, .ref z_wants_a, .ref z_wantsMany_a, .ref z_st_a, .ref z_was_a, .int z_known, .ref z_images_a, .ref z_isKept_a, .int z_toldMany, .ref z_told_a, .long z_trace, .ref z_text_a, .int z_texted, .int z_cursor, .int z_start, .int z_token, .int z_number, .int z_isWrong, .int z_items, .int z_saidPeople, .ref z_saidWeight_a, .ref z_saidNights_a, .ref z_saidWants_a, .ref z_saidMany_a, .int z_saidLaw, .ref z_now_a, .ref z_gave_a, .ref z_at_a, .int z_ringed, .int z_lumps, .ref z_way_a, .ref z_bestWay_a, .ref z_made_a])), (z_wantsMany_a, .inl (cI, 6, .inl z_wantsMany)), (z_wants_a, .inl (cI, 24, .inl z_wants))]
abbrev rm_X8_isWanted : Room := { frames := 0, cells := 0, slots := 0, locals := 0 }
set_option maxHeartbeats 4000000 in
set_option maxRecDepth 100000 in
theorem c_X8_isWanted (l : Launch) (dC : Nat → ClassId) (dI : Nat → Nat → Nat) (cI cZ cQ cW : ClassId) (z_o : Nat) (z_weight_a : Nat) (z_wants_a : Nat) (z_wantsMany_a : Nat) (z_st_a : Nat) (z_was_a : Nat) (z_images_a : Nat) (z_isKept_a : Nat) (z_told_a : Nat) (z_text_a : Nat) (z_saidWeight_a : Nat) (z_saidNights_a : Nat) (z_saidWants_a : Nat) (z_saidMany_a : Nat) (z_now_a : Nat) (z_gave_a : Nat) (z_at_a : Nat) (z_way_a : Nat) (z_bestWay_a : Nat) (z_made_a : Nat) (z_people : Int32) (z_known : Int32) (z_toldMany : Int32) (z_trace : Int64) (z_texted : Int32) (z_cursor : Int32) (z_start : Int32) (z_token : Int32) (z_number : Int32) (z_isWrong : Int32) (z_items : Int32) (z_saidPeople : Int32) (z_saidLaw : Int32) (z_ringed : Int32) (z_lumps : Int32) (z_wantsMany : Nat → Int32) (z_wants : Nat → Int32) (x1 : Int32) (x2 : Int32) {ρ : Type} (N : Nat) (k : Int32 → Option ρ) (res : ρ) (h : f_X8_isWanted N z_wantsMany z_wants x1 x2 k = some res) : Ci l yX8_isWanted (WS yX8_isWanted cX8_isWanted 5 (some .boolean)) rm_X8_isWanted (dC, dI) (tysG cI cZ cQ cW) E0 [.ref z_o, .int x1, .int x2] (w_X8_isWanted cI cZ cQ cW z_o z_weight_a z_wants_a z_wantsMany_a z_st_a z_was_a z_images_a z_isKept_a z_told_a z_text_a z_saidWeight_a z_saidNights_a z_saidWants_a z_saidMany_a z_now_a z_gave_a z_at_a z_way_a z_bestWay_a z_made_a z_people z_known z_toldMany z_trace z_texted z_cursor z_start z_token z_number z_isWrong z_items z_saidPeople z_saidLaw z_ringed z_lumps z_wantsMany z_wants) (fun (_ : Unit) => (w_X8_isWanted cI cZ cQ cW z_o z_weight_a z_wants_a z_wantsMany_a z_st_a z_was_a z_images_a z_isKept_a z_told_a z_text_a z_saidWeight_a z_saidNights_a z_saidWants_a z_saidMany_a z_now_a z_gave_a z_at_a z_way_a z_bestWay_a z_made_a z_people z_known z_toldMany z_trace z_texted z_cursor z_start z_token z_number z_isWrong z_items z_saidPeople z_saidLaw z_ringed z_lumps z_wantsMany z_wants)) (fun r _ => k r = some res) := by
  refine Ci.of (cc := cX8_isWanted) (n := 5) (by decide +kernel) (Nat.le_of_ble_eq_true rfl) ?_
  intro p e s m args below meth c A ls Q B hW hE hS hl hQ
  have hx := B.1
  have hb := B.2.1
  have hl : lv_has ls 5 [(0, .ref z_o), (1, .int x1), (2, .int x2)] := hl
  unfold f_X8_isWanted at h
  refine lv_iconst (pc := 0) (v := 0) hx hb (tb_at tk_X8_isWanted 0 rfl) (by decide) ?_
  refine lv_istore_n (pc := 1) (lv' := [(3, .int 0), (0, .ref z_o), (1, .int x1), (2, .int x2)]) hx hb (tb_at tk_X8_isWanted 1 rfl) rfl hl (by decide) rfl (fun ls hl => ?_)
  refine lv_iconst (pc := 2) (v := 0) hx hb (tb_at tk_X8_isWanted 2 rfl) (by decide) ?_
  refine lv_istore (pc := 3) (lv' := [(4, .int 0), (3, .int 0), (0, .ref z_o), (1, .int x1), (2, .int x2)]) hx hb (tb_at tk_X8_isWanted 3 rfl) hl (by decide) rfl (fun ls hl => ?_)
  have w5 : ∀ (n : Nat), ∀ (y3_l5 : Int32) (y4_l5 : Int32) (H : Heap) (locs : List Loc) (ls : Array Slot), f_X8_isWanted_l5 x1 x2 z_wantsMany z_wants k n y3_l5 y4_l5 = some res → PD (dC, dI) A (w_X8_isWanted cI cZ cQ cW z_o z_weight_a z_wants_a z_wantsMany_a z_st_a z_was_a z_images_a z_isKept_a z_told_a z_text_a z_saidWeight_a z_saidNights_a z_saidWants_a z_saidMany_a z_now_a z_gave_a z_at_a z_way_a z_bestWay_a z_made_a z_people z_known z_toldMany z_trace z_texted z_cursor z_start z_token z_number z_isWrong z_items z_saidPeople z_saidLaw z_ringed z_lumps z_wantsMany z_wants) H → va_S A s.heap H locs → lv_has ls 5 [(0, .ref z_o), (1, .int x1), (2, .int x2), (3, .int y3_l5), (4, .int y4_l5)] → W p l e rm_X8_isWanted s m args below meth c H locs 0 0 Q (F0 m 5 ls []) := by
    intro n
    induction n with
    | zero => intro y3_l5 y4_l5 H locs ls h; exact no_n h
    | succ n5 ih5 =>
      intro y3_l5 y4_l5 H locs ls h hW hS hl
      rw [f_X8_isWanted_l5] at h
      refine lv_iload (pc := 5) hx hb (tb_at tk_X8_isWanted 4 rfl) (lv_at hl 4 rfl) ?_
      refine lv_aload_n (pc := 7) hx hb (tb_at tk_X8_isWanted 5 rfl) rfl (lv_at hl 0 rfl) ?_
      refine k_get (pc := 8) (v := .ref z_wantsMany_a) (T := TX8) B inG8 hW 0 rfl rfl 3 (by decide) q_f_X8_16 rfl rfl (tb_at tk_X8_isWanted 6 rfl) ?_
      refine lv_iload_n (pc := 11) hx hb (tb_at tk_X8_isWanted 7 rfl) rfl (lv_at hl 1 rfl) ?_
      have ii := ivi_in (ck_l h)
      have h := ck_r h
      refine k_iald (pc := 12) B hW 1 0 rfl rfl ii (tb_at tk_X8_isWanted 8 rfl) ?_
      refine lv_icmp_ge (pc := 13) (tgt := 47) hx hb (tb_at tk_X8_isWanted 9 rfl) (by decide) (fun cc => ?_) (fun cc => ?_)
      · have h := it_t cc h
        refine lv_iload_n (pc := 47) hx hb (tb_at tk_X8_isWanted 28 rfl) rfl (lv_at hl 3 rfl) ?_
        have zz := ck_l h
        have h := ck_r h
        exact hQ y3_l5 () _ _ _ 48 (isZ_n zz) h hW hS (tb_at tk_X8_isWanted 29 rfl)
      · have h := it_f cc h
        refine lv_iload_n (pc := 16) hx hb (tb_at tk_X8_isWanted 10 rfl) rfl (lv_at hl 3 rfl) ?_
        have w35 : ∀ (H : Heap) (locs : List Loc) (ls : Array Slot), f_X8_isWanted_j35 y4_l5 (f_X8_isWanted_l5 x1 x2 z_wantsMany z_wants k n5) = some res → PD (dC, dI) A (w_X8_isWanted cI cZ cQ cW z_o z_weight_a z_wants_a z_wantsMany_a z_st_a z_was_a z_images_a z_isKept_a z_told_a z_text_a z_saidWeight_a z_saidNights_a z_saidWants_a z_saidMany_a z_now_a z_gave_a z_at_a z_way_a z_bestWay_a z_made_a z_people z_known z_toldMany z_trace z_texted z_cursor z_start z_token z_number z_isWrong z_items z_saidPeople z_saidLaw z_ringed z_lumps z_wantsMany z_wants) H → va_S A s.heap H locs → lv_has ls 5 [(0, .ref z_o), (1, .int x1), (2, .int x2), (4, .int y4_l5)] → W p l e rm_X8_isWanted s m args below meth c H locs 0 0 Q (F0 m 35 ls []) := by
          intro H locs ls h hW hS hl
          unfold f_X8_isWanted_j35 at h
          refine lv_iconst (pc := 35) (v := 1) hx hb (tb_at tk_X8_isWanted 22 rfl) (by decide) ?_
          refine lv_goto (pc := 36) (tgt := 40) hx hb (tb_at tk_X8_isWanted 23 rfl) (by decide) ?_
          refine lv_istore_n (pc := 40) (lv' := [(3, .int 1), (0, .ref z_o), (1, .int x1), (2, .int x2), (4, .int y4_l5)]) hx hb (tb_at tk_X8_isWanted 25 rfl) rfl hl (by decide) rfl (fun ls hl => ?_)
          refine lv_iinc (pc := 41) (v := y4_l5 + 1) (lv' := [(4, .int (y4_l5 + 1)), (3, .int 1), (0, .ref z_o), (1, .int x1), (2, .int x2)]) hx hb (tb_at tk_X8_isWanted 26 rfl) hl (k := 4) rfl rfl (by decide) rfl (fun ls hl => ?_)
          refine lv_goto (pc := 44) (tgt := 5) hx hb (tb_at tk_X8_isWanted 27 rfl) (by decide) ?_
          exact ih5 1 (y4_l5 + 1) _ _ _ h hW hS (lv_sub hl [2, 3, 4, 1, 0] rfl)
        refine lv_if_ne (pc := 17) (tgt := 35) hx hb (tb_at tk_X8_isWanted 11 rfl) (by decide) (fun cc => ?_) (fun cc => ?_)
        · have h := it_f cc h
          exact w35  _ _ _ h hW hS (lv_sub hl [0, 1, 2, 4] rfl)
        · have h := it_t cc h
          refine lv_aload_n (pc := 20) hx hb (tb_at tk_X8_isWanted 12 rfl) rfl (lv_at hl 0 rfl) ?_
          refine k_get (pc := 21) (v := .ref z_wants_a) (T := TX8) B inG8 hW 0 rfl rfl 2 (by decide) q_f_X8_13 rfl rfl (tb_at tk_X8_isWanted 13 rfl) ?_
          refine lv_iconst (pc := 24) (v := 4) hx hb (tb_at tk_X8_isWanted 14 rfl) (by decide) ?_
          refine lv_iload_n (pc := 25) hx hb (tb_at tk_X8_isWanted 15 rfl) rfl (lv_at hl 1 rfl) ?_
          refine lv_imul (pc := 26) hx hb (tb_at tk_X8_isWanted 16 rfl) ?_
          refine lv_iload (pc := 27) hx hb (tb_at tk_X8_isWanted 17 rfl) (lv_at hl 4 rfl) ?_
          refine lv_iadd (pc := 29) hx hb (tb_at tk_X8_isWanted 18 rfl) ?_
          have ii := ivi_in (ck_l h)
          have h := ck_r h
          refine k_iald (pc := 30) B hW 2 0 rfl rfl ii (tb_at tk_X8_isWanted 19 rfl) ?_
          refine lv_iload_n (pc := 31) hx hb (tb_at tk_X8_isWanted 20 rfl) rfl (lv_at hl 2 rfl) ?_
          refine lv_icmp_ne (pc := 32) (tgt := 39) hx hb (tb_at tk_X8_isWanted 21 rfl) (by decide) (fun cc => ?_) (fun cc => ?_)
          · have h := it_f cc h
            refine lv_iconst (pc := 39) (v := 0) hx hb (tb_at tk_X8_isWanted 24 rfl) (by decide) ?_
            refine lv_istore_n (pc := 40) (lv' := [(3, .int 0), (0, .ref z_o), (1, .int x1), (2, .int x2), (4, .int y4_l5)]) hx hb (tb_at tk_X8_isWanted 25 rfl) rfl hl (by decide) rfl (fun ls hl => ?_)
            refine lv_iinc (pc := 41) (v := y4_l5 + 1) (lv' := [(4, .int (y4_l5 + 1)), (3, .int 0), (0, .ref z_o), (1, .int x1), (2, .int x2)]) hx hb (tb_at tk_X8_isWanted 26 rfl) hl (k := 4) rfl rfl (by decide) rfl (fun ls hl => ?_)
            refine lv_goto (pc := 44) (tgt := 5) hx hb (tb_at tk_X8_isWanted 27 rfl) (by decide) ?_
            exact ih5 0 (y4_l5 + 1) _ _ _ h hW hS (lv_sub hl [2, 3, 4, 1, 0] rfl)
          · have h := it_t cc h
            exact w35  _ _ _ h hW hS (lv_sub hl [0, 1, 2, 4] rfl)
  exact w5 N 0 0 _ _ _ h hW hS (lv_sub hl [2, 3, 4, 1, 0] rfl)
def f_X8_wayOf_e169 {ρ : Type} (k : Int32 → (Nat → Int32) → Option ρ) (y5_e169 : Int32) (y6_e169 : Int32) (z_way_e169 : Nat → Int32) : Option ρ := if y6_e169 = 0 then (k (-1) z_way_e169) else (k y5_e169 z_way_e169)
def f_X8_wayOf_j160 {ρ : Type} (y3_l19 : Int32) (y4_l19 : Int32) (y5_l19 : Int32) (y7_l19 : Int32) (z_way_l19 : Nat → Int32) (s0_j123 : Int32) (s1_j145 : Int32) (kb19 : Int32 → Int32 → Int32 → Int32 → Int32 → (Nat → Int32) → Option ρ) (s1_j160 : Int32) : Option ρ := kb19 (y3_l19 / (7 : Int32)) (y4_l19 ||| s1_j145) (y5_l19 + s1_j160) s0_j123 (y7_l19 + (-1)) (upd z_way_l19 (y7_l19).toNatClampNeg (y3_l19 - y3_l19 / (7 : Int32) * (7 : Int32)))
def f_X8_wayOf_j145 {ρ : Type} (y3_l19 : Int32) (y4_l19 : Int32) (y5_l19 : Int32) (y7_l19 : Int32) (z_way_l19 : Nat → Int32) (s0_j57 : Int32) (s0_j123 : Int32) (kb19 : Int32 → Int32 → Int32 → Int32 → Int32 → (Nat → Int32) → Option ρ) (s1_j145 : Int32) : Option ρ := if s0_j57 = 0 then (f_X8_wayOf_j160 y3_l19 y4_l19 y5_l19 y7_l19 z_way_l19 s0_j123 s1_j145 kb19 0) else (f_X8_wayOf_j160 y3_l19 y4_l19 y5_l19 y7_l19 z_way_l19 s0_j123 s1_j145 kb19 1)
def f_X8_wayOf_j123 {ρ : Type} (y3_l19 : Int32) (y4_l19 : Int32) (y5_l19 : Int32) (y7_l19 : Int32) (z_way_l19 : Nat → Int32) (s0_j57 : Int32) (kb19 : Int32 → Int32 → Int32 → Int32 → Int32 → (Nat → Int32) → Option ρ) (s0_j123 : Int32) : Option ρ := if s0_j57 = 0 then (f_X8_wayOf_j145 y3_l19 y4_l19 y5_l19 y7_l19 z_way_l19 s0_j57 s0_j123 kb19 0) else (ck (ivi y7_l19 6) (f_X8_wayOf_j145 y3_l19 y4_l19 y5_l19 y7_l19 z_way_l19 s0_j57 s0_j123 kb19 ((1 : Int32) <<< (((upd z_way_l19 (y7_l19).toNatClampNeg (y3_l19 - y3_l19 / (7 : Int32) * (7 : Int32))) (y7_l19).toNatClampNeg) &&& 31))))
def f_X8_wayOf_j122 {ρ : Type} (y3_l19 : Int32) (y4_l19 : Int32) (y5_l19 : Int32) (y7_l19 : Int32) (z_way_l19 : Nat → Int32) (s0_j57 : Int32) (kb19 : Int32 → Int32 → Int32 → Int32 → Int32 → (Nat → Int32) → Option ρ) : Option ρ := f_X8_wayOf_j123 y3_l19 y4_l19 y5_l19 y7_l19 z_way_l19 s0_j57 kb19 0
def f_X8_wayOf_j118 {ρ : Type} (y3_l19 : Int32) (y4_l19 : Int32) (y5_l19 : Int32) (y7_l19 : Int32) (z_way_l19 : Nat → Int32) (s0_j57 : Int32) (kb19 : Int32 → Int32 → Int32 → Int32 → Int32 → (Nat → Int32) → Option ρ) : Option ρ := f_X8_wayOf_j123 y3_l19 y4_l19 y5_l19 y7_l19 z_way_l19 s0_j57 kb19 1
def f_X8_wayOf_j57 {ρ : Type} (x2 : Int32) (z_st : Nat → Int32) (z_wantsMany : Nat → Int32) (z_wants : Nat → Int32) (y3_l19 : Int32) (y4_l19 : Int32) (y5_l19 : Int32) (y6_l19 : Int32) (y7_l19 : Int32) (z_way_l19 : Nat → Int32) (kb19 : Int32 → Int32 → Int32 → Int32 → Int32 → (Nat → Int32) → Option ρ) (N : Nat) (s0_j57 : Int32) : Option ρ := if y6_l19 = 0 then (f_X8_wayOf_j122 y3_l19 y4_l19 y5_l19 y7_l19 z_way_l19 s0_j57 kb19 ) else (if s0_j57 = 0 then (f_X8_wayOf_j118 y3_l19 y4_l19 y5_l19 y7_l19 z_way_l19 s0_j57 kb19 ) else (ck (ivi ((0 : Int32) + y7_l19) 25) (if 6 ≤ (z_st ((0 : Int32) + y7_l19).toNatClampNeg) then (f_X8_wayOf_j122 y3_l19 y4_l19 y5_l19 y7_l19 z_way_l19 s0_j57 kb19 ) else (ck (ivi y7_l19 6) (f_X8_has N (x2 &&& (y4_l19 ^^^ (-1))) ((upd z_way_l19 (y7_l19).toNatClampNeg (y3_l19 - y3_l19 / (7 : Int32) * (7 : Int32))) (y7_l19).toNatClampNeg) (fun r96 => if r96 = 0 then (f_X8_wayOf_j122 y3_l19 y4_l19 y5_l19 y7_l19 z_way_l19 s0_j57 kb19 ) else (ck (ivi y7_l19 6) (f_X8_isWanted N z_wantsMany z_wants y7_l19 ((upd z_way_l19 (y7_l19).toNatClampNeg (y3_l19 - y3_l19 / (7 : Int32) * (7 : Int32))) (y7_l19).toNatClampNeg) (fun r112 => if r112 = 0 then (f_X8_wayOf_j122 y3_l19 y4_l19 y5_l19 y7_l19 z_way_l19 s0_j57 kb19 ) else (f_X8_wayOf_j118 y3_l19 y4_l19 y5_l19 y7_l19 z_way_l19 s0_j57 kb19 ))))))))))
def f_X8_wayOf_l19 {ρ : Type} (x2 : Int32) (z_st : Nat → Int32) (z_wantsMany : Nat → Int32) (z_wants : Nat → Int32) (k169 : Int32 → Int32 → (Nat → Int32) → Option ρ) (N : Nat) : Nat → Int32 → Int32 → Int32 → Int32 → Int32 → (Nat → Int32) → Option ρ
  | 0, _, _, _, _, _, _ => none
  | n19 + 1, y3_l19, y4_l19, y5_l19, y6_l19, y7_l19, z_way_l19 => if y7_l19 < 0 then (k169 y5_l19 y6_l19 z_way_l19) else (ck (!decide ((7 : Int32) = 0)) (ck (ivi y7_l19 6) (ck (!decide ((7 : Int32) = 0)) (ck (ivi y7_l19 6) (if 6 ≤ ((upd z_way_l19 (y7_l19).toNatClampNeg (y3_l19 - y3_l19 / (7 : Int32) * (7 : Int32))) (y7_l19).toNatClampNeg) then (f_X8_wayOf_j57 x2 z_st z_wantsMany z_wants y3_l19 y4_l19 y5_l19 y6_l19 y7_l19 z_way_l19 (f_X8_wayOf_l19 x2 z_st z_wantsMany z_wants k169 N n19) N 0) else (f_X8_wayOf_j57 x2 z_st z_wantsMany z_wants y3_l19 y4_l19 y5_l19 y6_l19 y7_l19 z_way_l19 (f_X8_wayOf_l19 x2 z_st z_wantsMany z_wants k169 N n19) N 1))))))
def f_X8_wayOf {ρ : Type} (N : Nat) (z_people : Int32) (z_way : Nat → Int32) (z_st : Nat → Int32) (z_wantsMany : Nat → Int32) (z_wants : Nat → Int32) (x1 : Int32) (x2 : Int32) (k : Int32 → (Nat → Int32) → Option ρ) : Option ρ := f_X8_wayOf_l19 x2 z_st z_wantsMany z_wants (fun y5_e169 y6_e169 z_way_e169 => f_X8_wayOf_e169 k y5_e169 y6_e169 z_way_e169) N N x1 0 0 1 (z_people - 1) z_way
abbrev w_X8_wayOf (cI cZ cQ cW : ClassId) (z_o : Nat) (z_weight_a : Nat) (z_wants_a : Nat) (z_wantsMany_a : Nat) (z_st_a : Nat) (z_was_a : Nat) (z_images_a : Nat) (z_isKept_a : Nat) (z_told_a : Nat) (z_text_a : Nat) (z_saidWeight_a : Nat) (z_saidNights_a : Nat) (z_saidWants_a : Nat) (z_saidMany_a : Nat) (z_now_a : Nat) (z_gave_a : Nat) (z_at_a : Nat) (z_way_a : Nat) (z_bestWay_a : Nat) (z_made_a : Nat) (z_people : Int32) (z_known : Int32) (z_toldMany : Int32) (z_trace : Int64) (z_texted : Int32) (z_cursor : Int32) (z_start : Int32) (z_token : Int32) (z_number : Int32) (z_isWrong : Int32) (z_items : Int32) (z_saidPeople : Int32) (z_saidLaw : Int32) (z_ringed : Int32) (z_lumps : Int32) (z_way : Nat → Int32) (z_st : Nat → Int32) (z_wantsMany : Nat → Int32) (z_wants : Nat → Int32) : va_W := [(z_o, .inr (8, [.int z_people, .ref z_weight_a, .ref z_wants_a, .ref z_wantsMany_a, .ref z_st_a, .ref z_was_a, .int z_known, .ref z_images_a, .ref z_isKept_a, .int z_toldMany, .ref z_told_a, .long z_trace, .ref z_text_a, .int z_texted, .int z_cursor, .int z_start, .int z_token, .int z_number, .int z_isWrong, .int z_items, .int z_saidPeople, .ref z_saidWeight_a, .ref z_saidNights_a, .ref z_saidWants_a, .ref z_saidMany_a, .int z_saidLaw, .ref z_now_a, .ref z_gave_a, .ref z_at_a, .int z_ringed, .int z_lumps, .ref z_way_a, .ref z_bestWay_a, .ref z_made_a])), (z_way_a, .inl (cI, 6, .inl z_way)), (z_st_a, .inl (cI, 25, .inl z_st)), (z_wantsMany_a, .inl (cI, 6, .inl z_wantsMany)), (z_wants_a, .inl (cI, 24, .inl z_wants))]
abbrev rm_X8_wayOf : Room := { frames := 1, cells := 0, slots := 0, locals := 24 }
set_option maxHeartbeats 4000000 in
set_option maxRecDepth 100000 in
theorem c_X8_wayOf (l : Launch) (dC : Nat → ClassId) (dI : Nat → Nat → Nat) (cI cZ cQ cW : ClassId) (z_o : Nat) (z_weight_a : Nat) (z_wants_a : Nat) (z_wantsMany_a : Nat) (z_st_a : Nat) (z_was_a : Nat) (z_images_a : Nat) (z_isKept_a : Nat) (z_told_a : Nat) (z_text_a : Nat) (z_saidWeight_a : Nat) (z_saidNights_a : Nat) (z_saidWants_a : Nat) (z_saidMany_a : Nat) (z_now_a : Nat) (z_gave_a : Nat) (z_at_a : Nat) (z_way_a : Nat) (z_bestWay_a : Nat) (z_made_a : Nat) (z_people : Int32) (z_known : Int32) (z_toldMany : Int32) (z_trace : Int64) (z_texted : Int32) (z_cursor : Int32) (z_start : Int32) (z_token : Int32) (z_number : Int32) (z_isWrong : Int32) (z_items : Int32) (z_saidPeople : Int32) (z_saidLaw : Int32) (z_ringed : Int32) (z_lumps : Int32) (z_way : Nat → Int32) (z_st : Nat → Int32) (z_wantsMany : Nat → Int32) (z_wants : Nat → Int32) (x1 : Int32) (x2 : Int32) {ρ : Type} (N : Nat) (k : Int32 → (Nat → Int32) → Option ρ) (res : ρ) (h : f_X8_wayOf N z_people z_way z_st z_wantsMany z_wants x1 x2 k = some res) : Ci l yX8_wayOf (WS yX8_wayOf cX8_wayOf 9 (some .int)) rm_X8_wayOf (dC, dI) (tysG cI cZ cQ cW) E0 [.ref z_o, .int x1, .int x2] (w_X8_wayOf cI cZ cQ cW z_o z_weight_a z_wants_a z_wantsMany_a z_st_a z_was_a z_images_a z_isKept_a z_told_a z_text_a z_saidWeight_a z_saidNights_a z_saidWants_a z_saidMany_a z_now_a z_gave_a z_at_a z_way_a z_bestWay_a z_made_a z_people z_known z_toldMany z_trace z_texted z_cursor z_start z_token z_number z_isWrong z_items z_saidPeople z_saidLaw z_ringed z_lumps z_way z_st z_wantsMany z_wants) (fun (u : (Nat → Int32)) => (w_X8_wayOf cI cZ cQ cW z_o z_weight_a z_wants_a z_wantsMany_a z_st_a z_was_a z_images_a z_isKept_a z_told_a z_text_a z_saidWeight_a z_saidNights_a z_saidWants_a z_saidMany_a z_now_a z_gave_a z_at_a z_way_a z_bestWay_a z_made_a z_people z_known z_toldMany z_trace z_texted z_cursor z_start z_token z_number z_isWrong z_items z_saidPeople z_saidLaw z_ringed z_lumps u z_st z_wantsMany z_wants)) (fun r u => k r u = some res) := by
  refine Ci.of (cc := cX8_wayOf) (n := 9) (by decide +kernel) (Nat.le_of_ble_eq_true rfl) ?_
  intro p e s m args below meth c A ls Q B hW hE hS hl hQ
  have hx := B.1
  have hb := B.2.1
  have hl : lv_has ls 9 [(0, .ref z_o), (1, .int x1), (2, .int x2)] := hl
  unfold f_X8_wayOf at h
  refine lv_iload_n (pc := 0) hx hb (tb_at tk_X8_wayOf 0 rfl) rfl (lv_at hl 1 rfl) ?_
  refine lv_istore_n (pc := 1) (lv' := [(3, .int x1), (0, .ref z_o), (1, .int x1), (2, .int x2)]) hx hb (tb_at tk_X8_wayOf 1 rfl) rfl hl (by decide) rfl (fun ls hl => ?_)
  refine lv_iconst (pc := 2) (v := 0) hx hb (tb_at tk_X8_wayOf 2 rfl) (by decide) ?_
  refine lv_istore (pc := 3) (lv' := [(4, .int 0), (3, .int x1), (0, .ref z_o), (1, .int x1), (2, .int x2)]) hx hb (tb_at tk_X8_wayOf 3 rfl) hl (by decide) rfl (fun ls hl => ?_)
  refine lv_iconst (pc := 5) (v := 0) hx hb (tb_at tk_X8_wayOf 4 rfl) (by decide) ?_
  refine lv_istore (pc := 6) (lv' := [(5, .int 0), (4, .int 0), (3, .int x1), (0, .ref z_o), (1, .int x1), (2, .int x2)]) hx hb (tb_at tk_X8_wayOf 5 rfl) hl (by decide) rfl (fun ls hl => ?_)
  refine lv_iconst (pc := 8) (v := 1) hx hb (tb_at tk_X8_wayOf 6 rfl) (by decide) ?_
  refine lv_istore (pc := 9) (lv' := [(6, .int 1), (5, .int 0), (4, .int 0), (3, .int x1), (0, .ref z_o), (1, .int x1), (2, .int x2)]) hx hb (tb_at tk_X8_wayOf 7 rfl) hl (by decide) rfl (fun ls hl => ?_)
  refine lv_aload_n (pc := 11) hx hb (tb_at tk_X8_wayOf 8 rfl) rfl (lv_at hl 4 rfl) ?_
  refine k_get (pc := 12) (v := .int z_people) (T := TX8) B inG8 hW 0 rfl rfl 0 (by decide) q_f_X8_68 rfl rfl (tb_at tk_X8_wayOf 9 rfl) ?_
  refine lv_iconst (pc := 15) (v := 1) hx hb (tb_at tk_X8_wayOf 10 rfl) (by decide) ?_
  refine lv_isub (pc := 16) hx hb (tb_at tk_X8_wayOf 11 rfl) ?_
  refine lv_istore (pc := 17) (lv' := [(7, .int (z_people - 1)), (6, .int 1), (5, .int 0), (4, .int 0), (3, .int x1), (0, .ref z_o), (1, .int x1), (2, .int x2)]) hx hb (tb_at tk_X8_wayOf 12 rfl) hl (by decide) rfl (fun ls hl => ?_)
  have w169 : ∀ (y5_e169 : Int32) (y6_e169 : Int32) (z_way_e169 : Nat → Int32) (H : Heap) (locs : List Loc) (ls : Array Slot), f_X8_wayOf_e169 k y5_e169 y6_e169 z_way_e169 = some res → PD (dC, dI) A (w_X8_wayOf cI cZ cQ cW z_o z_weight_a z_wants_a z_wantsMany_a z_st_a z_was_a z_images_a z_isKept_a z_told_a z_text_a z_saidWeight_a z_saidNights_a z_saidWants_a z_saidMany_a z_now_a z_gave_a z_at_a z_way_a z_bestWay_a z_made_a z_people z_known z_toldMany z_trace z_texted z_cursor z_start z_token z_number z_isWrong z_items z_saidPeople z_saidLaw z_ringed z_lumps z_way_e169 z_st z_wantsMany z_wants) H → va_S A s.heap H locs → lv_has ls 9 [(5, .int y5_e169), (6, .int y6_e169)] → W p l e rm_X8_wayOf s m args below meth c H locs 0 0 Q (F0 m 169 ls []) := by
    intro y5_e169 y6_e169 z_way_e169 H locs ls h hW hS hl
    unfold f_X8_wayOf_e169 at h
    refine lv_iload (pc := 169) hx hb (tb_at tk_X8_wayOf 94 rfl) (lv_at hl 1 rfl) ?_
    refine lv_if_eq (pc := 171) (tgt := 179) hx hb (tb_at tk_X8_wayOf 95 rfl) (by decide) (fun cc => ?_) (fun cc => ?_)
    · have h := it_t cc h
      refine lv_iconst (pc := 179) (v := (-1)) hx hb (tb_at tk_X8_wayOf 98 rfl) (by decide) ?_
      exact hQ (-1) (z_way_e169) _ _ _ 180 rfl h hW hS (tb_at tk_X8_wayOf 99 rfl)
    · have h := it_f cc h
      refine lv_iload (pc := 174) hx hb (tb_at tk_X8_wayOf 96 rfl) (lv_at hl 0 rfl) ?_
      refine lv_goto (pc := 176) (tgt := 180) hx hb (tb_at tk_X8_wayOf 97 rfl) (by decide) ?_
      exact hQ y5_e169 (z_way_e169) _ _ _ 180 rfl h hW hS (tb_at tk_X8_wayOf 99 rfl)
  have w19 : ∀ (n : Nat), ∀ (y3_l19 : Int32) (y4_l19 : Int32) (y5_l19 : Int32) (y6_l19 : Int32) (y7_l19 : Int32) (z_way_l19 : Nat → Int32) (H : Heap) (locs : List Loc) (ls : Array Slot), f_X8_wayOf_l19 x2 z_st z_wantsMany z_wants (fun y5_e169 y6_e169 z_way_e169 => f_X8_wayOf_e169 k y5_e169 y6_e169 z_way_e169) N n y3_l19 y4_l19 y5_l19 y6_l19 y7_l19 z_way_l19 = some res → PD (dC, dI) A (w_X8_wayOf cI cZ cQ cW z_o z_weight_a z_wants_a z_wantsMany_a z_st_a z_was_a z_images_a z_isKept_a z_told_a z_text_a z_saidWeight_a z_saidNights_a z_saidWants_a z_saidMany_a z_now_a z_gave_a z_at_a z_way_a z_bestWay_a z_made_a z_people z_known z_toldMany z_trace z_texted z_cursor z_start z_token z_number z_isWrong z_items z_saidPeople z_saidLaw z_ringed z_lumps z_way_l19 z_st z_wantsMany z_wants) H → va_S A s.heap H locs → lv_has ls 9 [(0, .ref z_o), (2, .int x2), (3, .int y3_l19), (4, .int y4_l19), (5, .int y5_l19), (6, .int y6_l19), (7, .int y7_l19)] → W p l e rm_X8_wayOf s m args below meth c H locs 0 0 Q (F0 m 19 ls []) := by
    intro n
    induction n with
    | zero => intro y3_l19 y4_l19 y5_l19 y6_l19 y7_l19 z_way_l19 H locs ls h; exact no_n h
    | succ n19 ih19 =>
      intro y3_l19 y4_l19 y5_l19 y6_l19 y7_l19 z_way_l19 H locs ls h hW hS hl
      rw [f_X8_wayOf_l19] at h
      refine lv_iload (pc := 19) hx hb (tb_at tk_X8_wayOf 13 rfl) (lv_at hl 6 rfl) ?_
      refine lv_if_lt (pc := 21) (tgt := 169) hx hb (tb_at tk_X8_wayOf 14 rfl) (by decide) (fun cc => ?_) (fun cc => ?_)
      · have h := it_t cc h
        exact w169 y5_l19 y6_l19 z_way_l19 _ _ _ h hW hS (lv_sub hl [4, 5] rfl)
      · have h := it_f cc h
        refine lv_aload_n (pc := 24) hx hb (tb_at tk_X8_wayOf 15 rfl) rfl (lv_at hl 0 rfl) ?_
        refine k_get (pc := 25) (v := .ref z_way_a) (T := TX8) B inG8 hW 0 rfl rfl 31 (by decide) q_f_X8_59 rfl rfl (tb_at tk_X8_wayOf 16 rfl) ?_
        refine lv_iload (pc := 28) hx hb (tb_at tk_X8_wayOf 17 rfl) (lv_at hl 6 rfl) ?_
        refine lv_iload_n (pc := 30) hx hb (tb_at tk_X8_wayOf 18 rfl) rfl (lv_at hl 2 rfl) ?_
        refine lv_bipush (pc := 31) (v := 7) hx hb (tb_at tk_X8_wayOf 19 rfl) (by decide) ?_
        have dz := dz_n (ck_l h)
        have h := ck_r h
        refine lv_irem (pc := 33) hx hb (tb_at tk_X8_wayOf 20 rfl) dz ?_
        have ii := ivi_in (ck_l h)
        have h := ck_r h
        refine k_iast (pc := 34) B hW hS 1 0 rfl rfl ii (tb_at tk_X8_wayOf 21 rfl) (w_X8_wayOf cI cZ cQ cW z_o z_weight_a z_wants_a z_wantsMany_a z_st_a z_was_a z_images_a z_isKept_a z_told_a z_text_a z_saidWeight_a z_saidNights_a z_saidWants_a z_saidMany_a z_now_a z_gave_a z_at_a z_way_a z_bestWay_a z_made_a z_people z_known z_toldMany z_trace z_texted z_cursor z_start z_token z_number z_isWrong z_items z_saidPeople z_saidLaw z_ringed z_lumps (upd z_way_l19 (y7_l19).toNatClampNeg (y3_l19 - y3_l19 / (7 : Int32) * (7 : Int32))) z_st z_wantsMany z_wants) rfl (fun H locs hW hS => ?_)
        refine lv_iload_n (pc := 35) hx hb (tb_at tk_X8_wayOf 22 rfl) rfl (lv_at hl 2 rfl) ?_
        refine lv_bipush (pc := 36) (v := 7) hx hb (tb_at tk_X8_wayOf 23 rfl) (by decide) ?_
        have dz := dz_n (ck_l h)
        have h := ck_r h
        refine lv_idiv (pc := 38) hx hb (tb_at tk_X8_wayOf 24 rfl) dz ?_
        refine lv_istore_n (pc := 39) (lv' := [(3, .int (y3_l19 / (7 : Int32))), (0, .ref z_o), (2, .int x2), (4, .int y4_l19), (5, .int y5_l19), (6, .int y6_l19), (7, .int y7_l19)]) hx hb (tb_at tk_X8_wayOf 25 rfl) rfl hl (by decide) rfl (fun ls hl => ?_)
        refine lv_aload_n (pc := 40) hx hb (tb_at tk_X8_wayOf 26 rfl) rfl (lv_at hl 1 rfl) ?_
        refine k_get (pc := 41) (v := .ref z_way_a) (T := TX8) B inG8 hW 0 rfl rfl 31 (by decide) q_f_X8_59 rfl rfl (tb_at tk_X8_wayOf 27 rfl) ?_
        refine lv_iload (pc := 44) hx hb (tb_at tk_X8_wayOf 28 rfl) (lv_at hl 6 rfl) ?_
        have ii := ivi_in (ck_l h)
        have h := ck_r h
        refine k_iald (pc := 46) B hW 1 0 rfl rfl ii (tb_at tk_X8_wayOf 29 rfl) ?_
        refine lv_bipush (pc := 47) (v := 6) hx hb (tb_at tk_X8_wayOf 30 rfl) (by decide) ?_
        have w57 : ∀ (s0_j57 : Int32) (H : Heap) (locs : List Loc) (ls : Array Slot), f_X8_wayOf_j57 x2 z_st z_wantsMany z_wants y3_l19 y4_l19 y5_l19 y6_l19 y7_l19 z_way_l19 (f_X8_wayOf_l19 x2 z_st z_wantsMany z_wants (fun y5_e169 y6_e169 z_way_e169 => f_X8_wayOf_e169 k y5_e169 y6_e169 z_way_e169) N n19) N s0_j57 = some res → PD (dC, dI) A (w_X8_wayOf cI cZ cQ cW z_o z_weight_a z_wants_a z_wantsMany_a z_st_a z_was_a z_images_a z_isKept_a z_told_a z_text_a z_saidWeight_a z_saidNights_a z_saidWants_a z_saidMany_a z_now_a z_gave_a z_at_a z_way_a z_bestWay_a z_made_a z_people z_known z_toldMany z_trace z_texted z_cursor z_start z_token z_number z_isWrong z_items z_saidPeople z_saidLaw z_ringed z_lumps (upd z_way_l19 (y7_l19).toNatClampNeg (y3_l19 - y3_l19 / (7 : Int32) * (7 : Int32))) z_st z_wantsMany z_wants) H → va_S A s.heap H locs → lv_has ls 9 [(0, .ref z_o), (2, .int x2), (3, .int (y3_l19 / (7 : Int32))), (4, .int y4_l19), (5, .int y5_l19), (6, .int y6_l19), (7, .int y7_l19)] → W p l e rm_X8_wayOf s m args below meth c H locs 0 0 Q (F0 m 57 ls [.int s0_j57]) := by
          intro s0_j57 H locs ls h hW hS hl
          unfold f_X8_wayOf_j57 at h
          refine lv_istore (pc := 57) (lv' := [(8, .int s0_j57), (0, .ref z_o), (2, .int x2), (3, .int (y3_l19 / (7 : Int32))), (4, .int y4_l19), (5, .int y5_l19), (6, .int y6_l19), (7, .int y7_l19)]) hx hb (tb_at tk_X8_wayOf 35 rfl) hl (by decide) rfl (fun ls hl => ?_)
          refine lv_iload (pc := 59) hx hb (tb_at tk_X8_wayOf 36 rfl) (lv_at hl 6 rfl) ?_
          have w123 : ∀ (s0_j123 : Int32) (H : Heap) (locs : List Loc) (ls : Array Slot), f_X8_wayOf_j123 y3_l19 y4_l19 y5_l19 y7_l19 z_way_l19 s0_j57 (f_X8_wayOf_l19 x2 z_st z_wantsMany z_wants (fun y5_e169 y6_e169 z_way_e169 => f_X8_wayOf_e169 k y5_e169 y6_e169 z_way_e169) N n19) s0_j123 = some res → PD (dC, dI) A (w_X8_wayOf cI cZ cQ cW z_o z_weight_a z_wants_a z_wantsMany_a z_st_a z_was_a z_images_a z_isKept_a z_told_a z_text_a z_saidWeight_a z_saidNights_a z_saidWants_a z_saidMany_a z_now_a z_gave_a z_at_a z_way_a z_bestWay_a z_made_a z_people z_known z_toldMany z_trace z_texted z_cursor z_start z_token z_number z_isWrong z_items z_saidPeople z_saidLaw z_ringed z_lumps (upd z_way_l19 (y7_l19).toNatClampNeg (y3_l19 - y3_l19 / (7 : Int32) * (7 : Int32))) z_st z_wantsMany z_wants) H → va_S A s.heap H locs → lv_has ls 9 [(0, .ref z_o), (2, .int x2), (3, .int (y3_l19 / (7 : Int32))), (4, .int y4_l19), (5, .int y5_l19), (7, .int y7_l19), (8, .int s0_j57)] → W p l e rm_X8_wayOf s m args below meth c H locs 0 0 Q (F0 m 123 ls [.int s0_j123]) := by
            intro s0_j123 H locs ls h hW hS hl
            unfold f_X8_wayOf_j123 at h
            refine lv_istore (pc := 123) (lv' := [(6, .int s0_j123), (0, .ref z_o), (2, .int x2), (3, .int (y3_l19 / (7 : Int32))), (4, .int y4_l19), (5, .int y5_l19), (7, .int y7_l19), (8, .int s0_j57)]) hx hb (tb_at tk_X8_wayOf 70 rfl) hl (by decide) rfl (fun ls hl => ?_)
            refine lv_iload (pc := 125) hx hb (tb_at tk_X8_wayOf 71 rfl) (lv_at hl 4 rfl) ?_
            refine lv_iload (pc := 127) hx hb (tb_at tk_X8_wayOf 72 rfl) (lv_at hl 7 rfl) ?_
            have w145 : ∀ (s1_j145 : Int32) (H : Heap) (locs : List Loc) (ls : Array Slot), f_X8_wayOf_j145 y3_l19 y4_l19 y5_l19 y7_l19 z_way_l19 s0_j57 s0_j123 (f_X8_wayOf_l19 x2 z_st z_wantsMany z_wants (fun y5_e169 y6_e169 z_way_e169 => f_X8_wayOf_e169 k y5_e169 y6_e169 z_way_e169) N n19) s1_j145 = some res → PD (dC, dI) A (w_X8_wayOf cI cZ cQ cW z_o z_weight_a z_wants_a z_wantsMany_a z_st_a z_was_a z_images_a z_isKept_a z_told_a z_text_a z_saidWeight_a z_saidNights_a z_saidWants_a z_saidMany_a z_now_a z_gave_a z_at_a z_way_a z_bestWay_a z_made_a z_people z_known z_toldMany z_trace z_texted z_cursor z_start z_token z_number z_isWrong z_items z_saidPeople z_saidLaw z_ringed z_lumps (upd z_way_l19 (y7_l19).toNatClampNeg (y3_l19 - y3_l19 / (7 : Int32) * (7 : Int32))) z_st z_wantsMany z_wants) H → va_S A s.heap H locs → lv_has ls 9 [(0, .ref z_o), (2, .int x2), (3, .int (y3_l19 / (7 : Int32))), (5, .int y5_l19), (6, .int s0_j123), (7, .int y7_l19), (8, .int s0_j57)] → W p l e rm_X8_wayOf s m args below meth c H locs 0 0 Q (F0 m 145 ls [.int s1_j145, .int y4_l19]) := by
              intro s1_j145 H locs ls h hW hS hl
              unfold f_X8_wayOf_j145 at h
              refine lv_ior (pc := 145) hx hb (tb_at tk_X8_wayOf 82 rfl) ?_
              refine lv_istore (pc := 146) (lv' := [(4, .int (y4_l19 ||| s1_j145)), (0, .ref z_o), (2, .int x2), (3, .int (y3_l19 / (7 : Int32))), (5, .int y5_l19), (6, .int s0_j123), (7, .int y7_l19), (8, .int s0_j57)]) hx hb (tb_at tk_X8_wayOf 83 rfl) hl (by decide) rfl (fun ls hl => ?_)
              refine lv_iload (pc := 148) hx hb (tb_at tk_X8_wayOf 84 rfl) (lv_at hl 4 rfl) ?_
              refine lv_iload (pc := 150) hx hb (tb_at tk_X8_wayOf 85 rfl) (lv_at hl 7 rfl) ?_
              have w160 : ∀ (s1_j160 : Int32) (H : Heap) (locs : List Loc) (ls : Array Slot), f_X8_wayOf_j160 y3_l19 y4_l19 y5_l19 y7_l19 z_way_l19 s0_j123 s1_j145 (f_X8_wayOf_l19 x2 z_st z_wantsMany z_wants (fun y5_e169 y6_e169 z_way_e169 => f_X8_wayOf_e169 k y5_e169 y6_e169 z_way_e169) N n19) s1_j160 = some res → PD (dC, dI) A (w_X8_wayOf cI cZ cQ cW z_o z_weight_a z_wants_a z_wantsMany_a z_st_a z_was_a z_images_a z_isKept_a z_told_a z_text_a z_saidWeight_a z_saidNights_a z_saidWants_a z_saidMany_a z_now_a z_gave_a z_at_a z_way_a z_bestWay_a z_made_a z_people z_known z_toldMany z_trace z_texted z_cursor z_start z_token z_number z_isWrong z_items z_saidPeople z_saidLaw z_ringed z_lumps (upd z_way_l19 (y7_l19).toNatClampNeg (y3_l19 - y3_l19 / (7 : Int32) * (7 : Int32))) z_st z_wantsMany z_wants) H → va_S A s.heap H locs → lv_has ls 9 [(0, .ref z_o), (2, .int x2), (3, .int (y3_l19 / (7 : Int32))), (4, .int (y4_l19 ||| s1_j145)), (6, .int s0_j123), (7, .int y7_l19)] → W p l e rm_X8_wayOf s m args below meth c H locs 0 0 Q (F0 m 160 ls [.int s1_j160, .int y5_l19]) := by
                intro s1_j160 H locs ls h hW hS hl
                unfold f_X8_wayOf_j160 at h
                refine lv_iadd (pc := 160) hx hb (tb_at tk_X8_wayOf 90 rfl) ?_
                refine lv_istore (pc := 161) (lv' := [(5, .int (y5_l19 + s1_j160)), (0, .ref z_o), (2, .int x2), (3, .int (y3_l19 / (7 : Int32))), (4, .int (y4_l19 ||| s1_j145)), (6, .int s0_j123), (7, .int y7_l19)]) hx hb (tb_at tk_X8_wayOf 91 rfl) hl (by decide) rfl (fun ls hl => ?_)
                refine lv_iinc (pc := 163) (v := y7_l19 + (-1)) (lv' := [(7, .int (y7_l19 + (-1))), (5, .int (y5_l19 + s1_j160)), (0, .ref z_o), (2, .int x2), (3, .int (y3_l19 / (7 : Int32))), (4, .int (y4_l19 ||| s1_j145)), (6, .int s0_j123)]) hx hb (tb_at tk_X8_wayOf 92 rfl) hl (k := 6) rfl rfl (by decide) rfl (fun ls hl => ?_)
                refine lv_goto (pc := 166) (tgt := 19) hx hb (tb_at tk_X8_wayOf 93 rfl) (by decide) ?_
                exact ih19 (y3_l19 / (7 : Int32)) (y4_l19 ||| s1_j145) (y5_l19 + s1_j160) s0_j123 (y7_l19 + (-1)) (upd z_way_l19 (y7_l19).toNatClampNeg (y3_l19 - y3_l19 / (7 : Int32) * (7 : Int32))) _ _ _ h hW hS (lv_sub hl [2, 3, 4, 5, 1, 6, 0] rfl)
              refine lv_if_eq (pc := 152) (tgt := 159) hx hb (tb_at tk_X8_wayOf 86 rfl) (by decide) (fun cc => ?_) (fun cc => ?_)
              · have h := it_t cc h
                refine lv_iconst (pc := 159) (v := 0) hx hb (tb_at tk_X8_wayOf 89 rfl) (by decide) ?_
                exact w160 0 _ _ _ h hW hS (lv_sub hl [1, 2, 3, 0, 5, 6] rfl)
              · have h := it_f cc h
                refine lv_iconst (pc := 155) (v := 1) hx hb (tb_at tk_X8_wayOf 87 rfl) (by decide) ?_
                refine lv_goto (pc := 156) (tgt := 160) hx hb (tb_at tk_X8_wayOf 88 rfl) (by decide) ?_
                exact w160 1 _ _ _ h hW hS (lv_sub hl [1, 2, 3, 0, 5, 6] rfl)
            refine lv_if_eq (pc := 129) (tgt := 144) hx hb (tb_at tk_X8_wayOf 73 rfl) (by decide) (fun cc => ?_) (fun cc => ?_)
            · have h := it_t cc h
              refine lv_iconst (pc := 144) (v := 0) hx hb (tb_at tk_X8_wayOf 81 rfl) (by decide) ?_
              exact w145 0 _ _ _ h hW hS (lv_sub hl [1, 2, 3, 5, 0, 6, 7] rfl)
            · have h := it_f cc h
              refine lv_iconst (pc := 132) (v := 1) hx hb (tb_at tk_X8_wayOf 74 rfl) (by decide) ?_
              refine lv_aload_n (pc := 133) hx hb (tb_at tk_X8_wayOf 75 rfl) rfl (lv_at hl 1 rfl) ?_
              refine k_get (pc := 134) (v := .ref z_way_a) (T := TX8) B inG8 hW 0 rfl rfl 31 (by decide) q_f_X8_59 rfl rfl (tb_at tk_X8_wayOf 76 rfl) ?_
              refine lv_iload (pc := 137) hx hb (tb_at tk_X8_wayOf 77 rfl) (lv_at hl 6 rfl) ?_
              have ii := ivi_in (ck_l h)
              have h := ck_r h
              refine k_iald (pc := 139) B hW 1 0 rfl rfl ii (tb_at tk_X8_wayOf 78 rfl) ?_
              refine lv_ishl (pc := 140) hx hb (tb_at tk_X8_wayOf 79 rfl) ?_
              refine lv_goto (pc := 141) (tgt := 145) hx hb (tb_at tk_X8_wayOf 80 rfl) (by decide) ?_
              exact w145 ((1 : Int32) <<< (((upd z_way_l19 (y7_l19).toNatClampNeg (y3_l19 - y3_l19 / (7 : Int32) * (7 : Int32))) (y7_l19).toNatClampNeg) &&& 31)) _ _ _ h hW hS (lv_sub hl [1, 2, 3, 5, 0, 6, 7] rfl)
          have w122 : ∀ (H : Heap) (locs : List Loc) (ls : Array Slot), f_X8_wayOf_j122 y3_l19 y4_l19 y5_l19 y7_l19 z_way_l19 s0_j57 (f_X8_wayOf_l19 x2 z_st z_wantsMany z_wants (fun y5_e169 y6_e169 z_way_e169 => f_X8_wayOf_e169 k y5_e169 y6_e169 z_way_e169) N n19) = some res → PD (dC, dI) A (w_X8_wayOf cI cZ cQ cW z_o z_weight_a z_wants_a z_wantsMany_a z_st_a z_was_a z_images_a z_isKept_a z_told_a z_text_a z_saidWeight_a z_saidNights_a z_saidWants_a z_saidMany_a z_now_a z_gave_a z_at_a z_way_a z_bestWay_a z_made_a z_people z_known z_toldMany z_trace z_texted z_cursor z_start z_token z_number z_isWrong z_items z_saidPeople z_saidLaw z_ringed z_lumps (upd z_way_l19 (y7_l19).toNatClampNeg (y3_l19 - y3_l19 / (7 : Int32) * (7 : Int32))) z_st z_wantsMany z_wants) H → va_S A s.heap H locs → lv_has ls 9 [(0, .ref z_o), (2, .int x2), (3, .int (y3_l19 / (7 : Int32))), (4, .int y4_l19), (5, .int y5_l19), (7, .int y7_l19), (8, .int s0_j57)] → W p l e rm_X8_wayOf s m args below meth c H locs 0 0 Q (F0 m 122 ls []) := by
            intro H locs ls h hW hS hl
            unfold f_X8_wayOf_j122 at h
            refine lv_iconst (pc := 122) (v := 0) hx hb (tb_at tk_X8_wayOf 69 rfl) (by decide) ?_
            exact w123 0 _ _ _ h hW hS (lv_sub hl [0, 1, 2, 3, 4, 5, 6] rfl)
          refine lv_if_eq (pc := 61) (tgt := 122) hx hb (tb_at tk_X8_wayOf 37 rfl) (by decide) (fun cc => ?_) (fun cc => ?_)
          · have h := it_t cc h
            exact w122  _ _ _ h hW hS (lv_sub hl [1, 2, 3, 4, 5, 7, 0] rfl)
          · have h := it_f cc h
            refine lv_iload (pc := 64) hx hb (tb_at tk_X8_wayOf 38 rfl) (lv_at hl 0 rfl) ?_
            have w118 : ∀ (H : Heap) (locs : List Loc) (ls : Array Slot), f_X8_wayOf_j118 y3_l19 y4_l19 y5_l19 y7_l19 z_way_l19 s0_j57 (f_X8_wayOf_l19 x2 z_st z_wantsMany z_wants (fun y5_e169 y6_e169 z_way_e169 => f_X8_wayOf_e169 k y5_e169 y6_e169 z_way_e169) N n19) = some res → PD (dC, dI) A (w_X8_wayOf cI cZ cQ cW z_o z_weight_a z_wants_a z_wantsMany_a z_st_a z_was_a z_images_a z_isKept_a z_told_a z_text_a z_saidWeight_a z_saidNights_a z_saidWants_a z_saidMany_a z_now_a z_gave_a z_at_a z_way_a z_bestWay_a z_made_a z_people z_known z_toldMany z_trace z_texted z_cursor z_start z_token z_number z_isWrong z_items z_saidPeople z_saidLaw z_ringed z_lumps (upd z_way_l19 (y7_l19).toNatClampNeg (y3_l19 - y3_l19 / (7 : Int32) * (7 : Int32))) z_st z_wantsMany z_wants) H → va_S A s.heap H locs → lv_has ls 9 [(0, .ref z_o), (2, .int x2), (3, .int (y3_l19 / (7 : Int32))), (4, .int y4_l19), (5, .int y5_l19), (7, .int y7_l19), (8, .int s0_j57)] → W p l e rm_X8_wayOf s m args below meth c H locs 0 0 Q (F0 m 118 ls []) := by
              intro H locs ls h hW hS hl
              unfold f_X8_wayOf_j118 at h
              refine lv_iconst (pc := 118) (v := 1) hx hb (tb_at tk_X8_wayOf 67 rfl) (by decide) ?_
              refine lv_goto (pc := 119) (tgt := 123) hx hb (tb_at tk_X8_wayOf 68 rfl) (by decide) ?_
              exact w123 1 _ _ _ h hW hS (lv_sub hl [0, 1, 2, 3, 4, 5, 6] rfl)
            refine lv_if_eq (pc := 66) (tgt := 118) hx hb (tb_at tk_X8_wayOf 39 rfl) (by decide) (fun cc => ?_) (fun cc => ?_)
            · have h := it_t cc h
              exact w118  _ _ _ h hW hS (lv_sub hl [1, 2, 3, 4, 5, 7, 0] rfl)
            · have h := it_f cc h
              refine lv_aload_n (pc := 69) hx hb (tb_at tk_X8_wayOf 40 rfl) rfl (lv_at hl 1 rfl) ?_
              refine k_get (pc := 70) (v := .ref z_st_a) (T := TX8) B inG8 hW 0 rfl rfl 4 (by decide) q_f_X8_19 rfl rfl (tb_at tk_X8_wayOf 41 rfl) ?_
              refine lv_iconst (pc := 73) (v := 0) hx hb (tb_at tk_X8_wayOf 42 rfl) (by decide) ?_
              refine lv_iload (pc := 74) hx hb (tb_at tk_X8_wayOf 43 rfl) (lv_at hl 7 rfl) ?_
              refine lv_iadd (pc := 76) hx hb (tb_at tk_X8_wayOf 44 rfl) ?_
              have ii := ivi_in (ck_l h)
              have h := ck_r h
              refine k_iald (pc := 77) B hW 2 0 rfl rfl ii (tb_at tk_X8_wayOf 45 rfl) ?_
              refine lv_bipush (pc := 78) (v := 6) hx hb (tb_at tk_X8_wayOf 46 rfl) (by decide) ?_
              refine lv_icmp_ge (pc := 80) (tgt := 122) hx hb (tb_at tk_X8_wayOf 47 rfl) (by decide) (fun cc => ?_) (fun cc => ?_)
              · have h := it_t cc h
                exact w122  _ _ _ h hW hS (lv_sub hl [1, 2, 3, 4, 5, 7, 0] rfl)
              · have h := it_f cc h
                refine lv_iload_n (pc := 83) hx hb (tb_at tk_X8_wayOf 48 rfl) rfl (lv_at hl 2 rfl) ?_
                refine lv_iload (pc := 84) hx hb (tb_at tk_X8_wayOf 49 rfl) (lv_at hl 4 rfl) ?_
                refine lv_iconst (pc := 86) (v := (-1)) hx hb (tb_at tk_X8_wayOf 50 rfl) (by decide) ?_
                refine lv_ixor (pc := 87) hx hb (tb_at tk_X8_wayOf 51 rfl) ?_
                refine lv_iand (pc := 88) hx hb (tb_at tk_X8_wayOf 52 rfl) ?_
                refine lv_aload_n (pc := 89) hx hb (tb_at tk_X8_wayOf 53 rfl) rfl (lv_at hl 1 rfl) ?_
                refine k_get (pc := 90) (v := .ref z_way_a) (T := TX8) B inG8 hW 0 rfl rfl 31 (by decide) q_f_X8_59 rfl rfl (tb_at tk_X8_wayOf 54 rfl) ?_
                refine lv_iload (pc := 93) hx hb (tb_at tk_X8_wayOf 55 rfl) (lv_at hl 7 rfl) ?_
                have ii := ivi_in (ck_l h)
                have h := ck_r h
                refine k_iald (pc := 95) B hW 1 0 rfl rfl ii (tb_at tk_X8_wayOf 56 rfl) ?_
                refine k_call0 (pc := 96) B (k_runSi (rest := []) (host := "") B (c_X8_has l dC dI cI cZ cQ cW   (x2 &&& (y4_l19 ^^^ (-1))) ((upd z_way_l19 (y7_l19).toNatClampNeg (y3_l19 - y3_l19 / (7 : Int32) * (7 : Int32))) (y7_l19).toNatClampNeg) N _ res h) E0_st (fun _ _ _ => trivial) q_c_X8_has q_m_X8_113 q_t_X8_has q_n_X8 hd_X8_has ⟨rfl, rfl⟩ ⟨Nat.le_of_ble_eq_true rfl, Nat.le_of_ble_eq_true rfl⟩ hW [] rfl (by decide +kernel) rfl hl.1 rfl (Nat.le_of_ble_eq_true rfl) (tb_at tk_X8_wayOf 57 rfl) ⟨Nat.zero_le _, Nat.zero_le _⟩) hW hS (fun r96 u H locs h hW hS => ?_)
                refine lv_if_eq (pc := 99) (tgt := 122) hx hb (tb_at tk_X8_wayOf 58 rfl) (by decide) (fun cc => ?_) (fun cc => ?_)
                · have h := it_t cc h
                  exact w122  _ _ _ h hW hS (lv_sub hl [1, 2, 3, 4, 5, 7, 0] rfl)
                · have h := it_f cc h
                  refine lv_aload_n (pc := 102) hx hb (tb_at tk_X8_wayOf 59 rfl) rfl (lv_at hl 1 rfl) ?_
                  refine lv_iload (pc := 103) hx hb (tb_at tk_X8_wayOf 60 rfl) (lv_at hl 7 rfl) ?_
                  refine lv_aload_n (pc := 105) hx hb (tb_at tk_X8_wayOf 61 rfl) rfl (lv_at hl 1 rfl) ?_
                  refine k_get (pc := 106) (v := .ref z_way_a) (T := TX8) B inG8 hW 0 rfl rfl 31 (by decide) q_f_X8_59 rfl rfl (tb_at tk_X8_wayOf 62 rfl) ?_
                  refine lv_iload (pc := 109) hx hb (tb_at tk_X8_wayOf 63 rfl) (lv_at hl 7 rfl) ?_
                  have ii := ivi_in (ck_l h)
                  have h := ck_r h
                  refine k_iald (pc := 111) B hW 1 0 rfl rfl ii (tb_at tk_X8_wayOf 64 rfl) ?_
                  refine k_calli (pc := 112) B (k_runVi (rest := []) (C := RX8) B (c_X8_isWanted l dC dI cI cZ cQ cW z_o z_weight_a z_wants_a z_wantsMany_a z_st_a z_was_a z_images_a z_isKept_a z_told_a z_text_a z_saidWeight_a z_saidNights_a z_saidWants_a z_saidMany_a z_now_a z_gave_a z_at_a z_way_a z_bestWay_a z_made_a z_people z_known z_toldMany z_trace z_texted z_cursor z_start z_token z_number z_isWrong z_items z_saidPeople z_saidLaw z_ringed z_lumps z_wantsMany z_wants y7_l19 ((upd z_way_l19 (y7_l19).toNatClampNeg (y3_l19 - y3_l19 / (7 : Int32) * (7 : Int32))) (y7_l19).toNatClampNeg) N _ res h) E0_st (fun _ _ _ => trivial) q_c_X8_isWanted q_m_X8_194 q_i_X8_isWanted q_s_X8_isWanted q_n_X8 hd_X8_isWanted ⟨rfl, rfl⟩ ⟨Nat.le_of_ble_eq_true rfl, Nat.le_of_ble_eq_true rfl⟩ hW [0, 3, 4] rfl (by decide +kernel) (q0 := 0) (ci := 8) rfl rfl rfl hl.1 rfl (Nat.le_of_ble_eq_true rfl) (tb_at tk_X8_wayOf 65 rfl) ⟨Nat.zero_le _, Nat.zero_le _⟩) hW hS [0, 3, 4] rfl [z_o, z_wantsMany_a, z_wants_a] rfl (fun _ => rfl) [some 0, none, none, some 1, some 2] (by decide +kernel) (fun _ => (w_X8_wayOf cI cZ cQ cW z_o z_weight_a z_wants_a z_wantsMany_a z_st_a z_was_a z_images_a z_isKept_a z_told_a z_text_a z_saidWeight_a z_saidNights_a z_saidWants_a z_saidMany_a z_now_a z_gave_a z_at_a z_way_a z_bestWay_a z_made_a z_people z_known z_toldMany z_trace z_texted z_cursor z_start z_token z_number z_isWrong z_items z_saidPeople z_saidLaw z_ringed z_lumps (upd z_way_l19 (y7_l19).toNatClampNeg (y3_l19 - y3_l19 / (7 : Int32) * (7 : Int32))) z_st z_wantsMany z_wants)) (fun _ => rfl) (fun r112 u H locs h hW hS => ?_)
                  have hW : PD (dC, dI) A (w_X8_wayOf cI cZ cQ cW z_o z_weight_a z_wants_a z_wantsMany_a z_st_a z_was_a z_images_a z_isKept_a z_told_a z_text_a z_saidWeight_a z_saidNights_a z_saidWants_a z_saidMany_a z_now_a z_gave_a z_at_a z_way_a z_bestWay_a z_made_a z_people z_known z_toldMany z_trace z_texted z_cursor z_start z_token z_number z_isWrong z_items z_saidPeople z_saidLaw z_ringed z_lumps (upd z_way_l19 (y7_l19).toNatClampNeg (y3_l19 - y3_l19 / (7 : Int32) * (7 : Int32))) z_st z_wantsMany z_wants) H := hW
                  refine lv_if_eq (pc := 115) (tgt := 122) hx hb (tb_at tk_X8_wayOf 66 rfl) (by decide) (fun cc => ?_) (fun cc => ?_)
                  · have h := it_t cc h
                    exact w122  _ _ _ h hW hS (lv_sub hl [1, 2, 3, 4, 5, 7, 0] rfl)
                  · have h := it_f cc h
                    exact w118  _ _ _ h hW hS (lv_sub hl [1, 2, 3, 4, 5, 7, 0] rfl)
        refine lv_icmp_ge (pc := 49) (tgt := 56) hx hb (tb_at tk_X8_wayOf 31 rfl) (by decide) (fun cc => ?_) (fun cc => ?_)
        · have h := it_t cc h
          refine lv_iconst (pc := 56) (v := 0) hx hb (tb_at tk_X8_wayOf 34 rfl) (by decide) ?_
          exact w57 0 _ _ _ h hW hS (lv_sub hl [1, 2, 0, 3, 4, 5, 6] rfl)
        · have h := it_f cc h
          refine lv_iconst (pc := 52) (v := 1) hx hb (tb_at tk_X8_wayOf 32 rfl) (by decide) ?_
          refine lv_goto (pc := 53) (tgt := 57) hx hb (tb_at tk_X8_wayOf 33 rfl) (by decide) ?_
          exact w57 1 _ _ _ h hW hS (lv_sub hl [1, 2, 0, 3, 4, 5, 6] rfl)
  exact w19 N x1 0 0 1 (z_people - 1) z_way _ _ _ h hW hS (lv_sub hl [5, 7, 4, 3, 2, 1, 0] rfl)
def f_X8_could_e145 {ρ : Type} (x1 : Int32) (k : Int32 → (Nat → Int32) → (Nat → Int32) → Option ρ) (y4_e145 : Int32) (z_way_e145 : Nat → Int32) (z_bestWay_e145 : Nat → Int32) : Option ρ := if 0 ≤ x1 then (ck (ivi x1 6) (if (z_bestWay_e145 (x1).toNatClampNeg) = 6 then (k (-9) z_way_e145 z_bestWay_e145) else (ck (ivi x1 6) (k (z_bestWay_e145 (x1).toNatClampNeg) z_way_e145 z_bestWay_e145)))) else (k y4_e145 z_way_e145 z_bestWay_e145)
def f_X8_could_e139 {ρ : Type} (y5_l81 : Int32) (r91 : Int32) (z_way_91 : Nat → Int32) (kb81 : Int32 → Int32 → (Nat → Int32) → (Nat → Int32) → Option ρ) (z_bestWay_e139 : Nat → Int32) : Option ρ := kb81 r91 (y5_l81 + 1) z_way_91 z_bestWay_e139
def f_X8_could_l110 {ρ : Type} (z_people : Int32) (z_way_91 : Nat → Int32) (k139 : (Nat → Int32) → Option ρ) : Nat → Int32 → (Nat → Int32) → Option ρ
  | 0, _, _ => none
  | n110 + 1, y7_l110, z_bestWay_l110 => if z_people ≤ y7_l110 then (k139 z_bestWay_l110) else (ck (ivi y7_l110 6) (ck (ivi y7_l110 6) ((f_X8_could_l110 z_people z_way_91 k139 n110) (y7_l110 + 1) (upd z_bestWay_l110 (y7_l110).toNatClampNeg (z_way_91 (y7_l110).toNatClampNeg)))))
def f_X8_could_l81 {ρ : Type} (z_people : Int32) (z_st : Nat → Int32) (z_wantsMany : Nat → Int32) (z_wants : Nat → Int32) (y2_e75 : Int32) (y3_e75 : Int32) (k145 : Int32 → (Nat → Int32) → (Nat → Int32) → Option ρ) (N : Nat) : Nat → Int32 → Int32 → (Nat → Int32) → (Nat → Int32) → Option ρ
  | 0, _, _, _, _ => none
  | n81 + 1, y4_l81, y5_l81, z_way_l81, z_bestWay_l81 => if y3_e75 ≤ y5_l81 then (k145 y4_l81 z_way_l81 z_bestWay_l81) else (f_X8_wayOf N z_people z_way_l81 z_st z_wantsMany z_wants y5_l81 y2_e75 (fun r91 z_way_91 => if r91 ≤ y4_l81 then ((f_X8_could_l81 z_people z_st z_wantsMany z_wants y2_e75 y3_e75 k145 N n81) y4_l81 (y5_l81 + 1) z_way_91 z_bestWay_l81) else (f_X8_could_l110 z_people z_way_91 (fun z_bestWay_e139 => f_X8_could_e139 y5_l81 r91 z_way_91 (f_X8_could_l81 z_people z_st z_wantsMany z_wants y2_e75 y3_e75 k145 N n81) z_bestWay_e139) N 0 z_bestWay_l81)))
def f_X8_could_e75 {ρ : Type} (x1 : Int32) (z_way : Nat → Int32) (z_bestWay : Nat → Int32) (z_people : Int32) (z_st : Nat → Int32) (z_wantsMany : Nat → Int32) (z_wants : Nat → Int32) (k : Int32 → (Nat → Int32) → (Nat → Int32) → Option ρ) (N : Nat) (y2_e75 : Int32) (y3_e75 : Int32) : Option ρ := f_X8_could_l81 z_people z_st z_wantsMany z_wants y2_e75 y3_e75 (fun y4_e145 z_way_e145 z_bestWay_e145 => f_X8_could_e145 x1 k y4_e145 z_way_e145 z_bestWay_e145) N N (-1) 0 z_way z_bestWay
def f_X8_could_j62 {ρ : Type} (y2_l23 : Int32) (y3_l23 : Int32) (y4_l23 : Int32) (kb23 : Int32 → Int32 → Int32 → Option ρ) (s1_j62 : Int32) : Option ρ := kb23 (y2_l23 ||| s1_j62) (y3_l23 * 7) (y4_l23 + 1)
def f_X8_could_l23 {ρ : Type} (z_people : Int32) (z_st : Nat → Int32) (k75 : Int32 → Int32 → Option ρ) : Nat → Int32 → Int32 → Int32 → Option ρ
  | 0, _, _, _ => none
  | n23 + 1, y2_l23, y3_l23, y4_l23 => if z_people ≤ y4_l23 then (k75 y2_l23 y3_l23) else (ck (ivi ((0 : Int32) + y4_l23) 25) (if 6 ≤ (z_st ((0 : Int32) + y4_l23).toNatClampNeg) then (f_X8_could_j62 y2_l23 y3_l23 y4_l23 (f_X8_could_l23 z_people z_st k75 n23) 0) else (ck (ivi ((0 : Int32) + y4_l23) 25) (f_X8_could_j62 y2_l23 y3_l23 y4_l23 (f_X8_could_l23 z_people z_st k75 n23) ((1 : Int32) <<< ((z_st ((0 : Int32) + y4_l23).toNatClampNeg) &&& 31))))))
def f_X8_could {ρ : Type} (N : Nat) (z_people : Int32) (z_st : Nat → Int32) (z_way : Nat → Int32) (z_wantsMany : Nat → Int32) (z_wants : Nat → Int32) (z_bestWay : Nat → Int32) (x1 : Int32) (k : Int32 → (Nat → Int32) → (Nat → Int32) → Option ρ) : Option ρ := f_X8_in N x1 (-1) (z_people - 1) (fun r8 => if r8 = 0 then (k (-1) z_way z_bestWay) else (f_X8_could_l23 z_people z_st (fun y2_e75 y3_e75 => f_X8_could_e75 x1 z_way z_bestWay z_people z_st z_wantsMany z_wants k N y2_e75 y3_e75) N 0 1 0))
abbrev w_X8_could (cI cZ cQ cW : ClassId) (z_o : Nat) (z_weight_a : Nat) (z_wants_a : Nat) (z_wantsMany_a : Nat) (z_st_a : Nat) (z_was_a : Nat) (z_images_a : Nat) (z_isKept_a : Nat) (z_told_a : Nat) (z_text_a : Nat) (z_saidWeight_a : Nat) (z_saidNights_a : Nat) (z_saidWants_a : Nat) (z_saidMany_a : Nat) (z_now_a : Nat) (z_gave_a : Nat) (z_at_a : Nat) (z_way_a : Nat) (z_bestWay_a : Nat) (z_made_a : Nat) (z_people : Int32) (z_known : Int32) (z_toldMany : Int32) (z_trace : Int64) (z_texted : Int32) (z_cursor : Int32) (z_start : Int32) (z_token : Int32) (z_number : Int32) (z_isWrong : Int32) (z_items : Int32) (z_saidPeople : Int32) (z_saidLaw : Int32) (z_ringed : Int32) (z_lumps : Int32) (z_st : Nat → Int32) (z_way : Nat → Int32) (z_wantsMany : Nat → Int32) (z_wants : Nat → Int32) (z_bestWay : Nat → Int32) : va_W := [(z_o, .inr (8, [.int z_people, .ref z_weight_a, .ref z_wants_a, .ref z_wantsMany_a, .ref z_st_a, .ref z_was_a, .int z_known, .ref z_images_a, .ref z_isKept_a, .int z_toldMany, .ref z_told_a, .long z_trace, .ref z_text_a, .int z_texted, .int z_cursor, .int z_start, .int z_token, .int z_number, .int z_isWrong, .int z_items, .int z_saidPeople, .ref z_saidWeight_a, .ref z_saidNights_a, .ref z_saidWants_a, .ref z_saidMany_a, .int z_saidLaw, .ref z_now_a, .ref z_gave_a, .ref z_at_a, .int z_ringed, .int z_lumps, .ref z_way_a, .ref z_bestWay_a, .ref z_made_a])), (z_st_a, .inl (cI, 25, .inl z_st)), (z_way_a, .inl (cI, 6, .inl z_way)), (z_wantsMany_a, .inl (cI, 6, .inl z_wantsMany)), (z_wants_a, .inl (cI, 24, .inl z_wants)), (z_bestWay_a, .inl (cI, 6, .inl z_bestWay))]
abbrev rm_X8_could : Room := { frames := 2, cells := 0, slots := 0, locals := 52 }
set_option maxHeartbeats 4000000 in
set_option maxRecDepth 100000 in
theorem c_X8_could (l : Launch) (dC : Nat → ClassId) (dI : Nat → Nat → Nat) (cI cZ cQ cW : ClassId) (z_o : Nat) (z_weight_a : Nat) (z_wants_a : Nat) (z_wantsMany_a : Nat) (z_st_a : Nat) (z_was_a : Nat) (z_images_a : Nat) (z_isKept_a : Nat) (z_told_a : Nat) (z_text_a : Nat) (z_saidWeight_a : Nat) (z_saidNights_a : Nat) (z_saidWants_a : Nat) (z_saidMany_a : Nat) (z_now_a : Nat) (z_gave_a : Nat) (z_at_a : Nat) (z_way_a : Nat) (z_bestWay_a : Nat) (z_made_a : Nat) (z_people : Int32) (z_known : Int32) (z_toldMany : Int32) (z_trace : Int64) (z_texted : Int32) (z_cursor : Int32) (z_start : Int32) (z_token : Int32) (z_number : Int32) (z_isWrong : Int32) (z_items : Int32) (z_saidPeople : Int32) (z_saidLaw : Int32) (z_ringed : Int32) (z_lumps : Int32) (z_st : Nat → Int32) (z_way : Nat → Int32) (z_wantsMany : Nat → Int32) (z_wants : Nat → Int32) (z_bestWay : Nat → Int32) (x1 : Int32) {ρ : Type} (N : Nat) (k : Int32 → (Nat → Int32) → (Nat → Int32) → Option ρ) (res : ρ) (h : f_X8_could N z_people z_st z_way z_wantsMany z_wants z_bestWay x1 k = some res) : Ci l yX8_could (WS yX8_could cX8_could 8 (some .int)) rm_X8_could (dC, dI) (tysG cI cZ cQ cW) E0 [.ref z_o, .int x1] (w_X8_could cI cZ cQ cW z_o z_weight_a z_wants_a z_wantsMany_a z_st_a z_was_a z_images_a z_isKept_a z_told_a z_text_a z_saidWeight_a z_saidNights_a z_saidWants_a z_saidMany_a z_now_a z_gave_a z_at_a z_way_a z_bestWay_a z_made_a z_people z_known z_toldMany z_trace z_texted z_cursor z_start z_token z_number z_isWrong z_items z_saidPeople z_saidLaw z_ringed z_lumps z_st z_way z_wantsMany z_wants z_bestWay) (fun (u : (Nat → Int32) × (Nat → Int32)) => (w_X8_could cI cZ cQ cW z_o z_weight_a z_wants_a z_wantsMany_a z_st_a z_was_a z_images_a z_isKept_a z_told_a z_text_a z_saidWeight_a z_saidNights_a z_saidWants_a z_saidMany_a z_now_a z_gave_a z_at_a z_way_a z_bestWay_a z_made_a z_people z_known z_toldMany z_trace z_texted z_cursor z_start z_token z_number z_isWrong z_items z_saidPeople z_saidLaw z_ringed z_lumps z_st u.1 z_wantsMany z_wants u.2)) (fun r u => k r u.1 u.2 = some res) := by
  refine Ci.of (cc := cX8_could) (n := 8) (by decide +kernel) (Nat.le_of_ble_eq_true rfl) ?_
  intro p e s m args below meth c A ls Q B hW hE hS hl hQ
  have hx := B.1
  have hb := B.2.1
  have hl : lv_has ls 8 [(0, .ref z_o), (1, .int x1)] := hl
  unfold f_X8_could at h
  refine lv_iload_n (pc := 0) hx hb (tb_at tk_X8_could 0 rfl) rfl (lv_at hl 1 rfl) ?_
  refine lv_iconst (pc := 1) (v := (-1)) hx hb (tb_at tk_X8_could 1 rfl) (by decide) ?_
  refine lv_aload_n (pc := 2) hx hb (tb_at tk_X8_could 2 rfl) rfl (lv_at hl 0 rfl) ?_
  refine k_get (pc := 3) (v := .int z_people) (T := TX8) B inG8 hW 0 rfl rfl 0 (by decide) q_f_X8_68 rfl rfl (tb_at tk_X8_could 3 rfl) ?_
  refine lv_iconst (pc := 6) (v := 1) hx hb (tb_at tk_X8_could 4 rfl) (by decide) ?_
  refine lv_isub (pc := 7) hx hb (tb_at tk_X8_could 5 rfl) ?_
  refine k_call0 (pc := 8) B (k_runSi (rest := []) (host := "") B (c_X8_in l dC dI cI cZ cQ cW   x1 (-1) (z_people - 1) N _ res h) E0_st (fun _ _ _ => trivial) q_c_X8_in q_m_X8_72 q_t_X8_in q_n_X8 hd_X8_in ⟨rfl, rfl⟩ ⟨Nat.le_of_ble_eq_true rfl, Nat.le_of_ble_eq_true rfl⟩ hW [] rfl (by decide +kernel) rfl hl.1 rfl (Nat.le_of_ble_eq_true rfl) (tb_at tk_X8_could 6 rfl) ⟨Nat.zero_le _, Nat.zero_le _⟩) hW hS (fun r8 u H locs h hW hS => ?_)
  refine lv_if_ne (pc := 11) (tgt := 16) hx hb (tb_at tk_X8_could 7 rfl) (by decide) (fun cc => ?_) (fun cc => ?_)
  · have h := it_f cc h
    refine lv_iconst (pc := 16) (v := 0) hx hb (tb_at tk_X8_could 10 rfl) (by decide) ?_
    refine lv_istore_n (pc := 17) (lv' := [(2, .int 0), (0, .ref z_o), (1, .int x1)]) hx hb (tb_at tk_X8_could 11 rfl) rfl hl (by decide) rfl (fun ls hl => ?_)
    refine lv_iconst (pc := 18) (v := 1) hx hb (tb_at tk_X8_could 12 rfl) (by decide) ?_
    refine lv_istore_n (pc := 19) (lv' := [(3, .int 1), (2, .int 0), (0, .ref z_o), (1, .int x1)]) hx hb (tb_at tk_X8_could 13 rfl) rfl hl (by decide) rfl (fun ls hl => ?_)
    refine lv_iconst (pc := 20) (v := 0) hx hb (tb_at tk_X8_could 14 rfl) (by decide) ?_
    refine lv_istore (pc := 21) (lv' := [(4, .int 0), (3, .int 1), (2, .int 0), (0, .ref z_o), (1, .int x1)]) hx hb (tb_at tk_X8_could 15 rfl) hl (by decide) rfl (fun ls hl => ?_)
    have w75 : ∀ (y2_e75 : Int32) (y3_e75 : Int32) (H : Heap) (locs : List Loc) (ls : Array Slot), f_X8_could_e75 x1 z_way z_bestWay z_people z_st z_wantsMany z_wants k N y2_e75 y3_e75 = some res → PD (dC, dI) A (w_X8_could cI cZ cQ cW z_o z_weight_a z_wants_a z_wantsMany_a z_st_a z_was_a z_images_a z_isKept_a z_told_a z_text_a z_saidWeight_a z_saidNights_a z_saidWants_a z_saidMany_a z_now_a z_gave_a z_at_a z_way_a z_bestWay_a z_made_a z_people z_known z_toldMany z_trace z_texted z_cursor z_start z_token z_number z_isWrong z_items z_saidPeople z_saidLaw z_ringed z_lumps z_st z_way z_wantsMany z_wants z_bestWay) H → va_S A s.heap H locs → lv_has ls 8 [(0, .ref z_o), (1, .int x1), (2, .int y2_e75), (3, .int y3_e75)] → W p l e rm_X8_could s m args below meth c H locs 0 0 Q (F0 m 75 ls []) := by
      intro y2_e75 y3_e75 H locs ls h hW hS hl
      unfold f_X8_could_e75 at h
      refine lv_iconst (pc := 75) (v := (-1)) hx hb (tb_at tk_X8_could 47 rfl) (by decide) ?_
      refine lv_istore (pc := 76) (lv' := [(4, .int (-1)), (0, .ref z_o), (1, .int x1), (2, .int y2_e75), (3, .int y3_e75)]) hx hb (tb_at tk_X8_could 48 rfl) hl (by decide) rfl (fun ls hl => ?_)
      refine lv_iconst (pc := 78) (v := 0) hx hb (tb_at tk_X8_could 49 rfl) (by decide) ?_
      refine lv_istore (pc := 79) (lv' := [(5, .int 0), (4, .int (-1)), (0, .ref z_o), (1, .int x1), (2, .int y2_e75), (3, .int y3_e75)]) hx hb (tb_at tk_X8_could 50 rfl) hl (by decide) rfl (fun ls hl => ?_)
      have w145 : ∀ (y4_e145 : Int32) (z_way_e145 : Nat → Int32) (z_bestWay_e145 : Nat → Int32) (H : Heap) (locs : List Loc) (ls : Array Slot), f_X8_could_e145 x1 k y4_e145 z_way_e145 z_bestWay_e145 = some res → PD (dC, dI) A (w_X8_could cI cZ cQ cW z_o z_weight_a z_wants_a z_wantsMany_a z_st_a z_was_a z_images_a z_isKept_a z_told_a z_text_a z_saidWeight_a z_saidNights_a z_saidWants_a z_saidMany_a z_now_a z_gave_a z_at_a z_way_a z_bestWay_a z_made_a z_people z_known z_toldMany z_trace z_texted z_cursor z_start z_token z_number z_isWrong z_items z_saidPeople z_saidLaw z_ringed z_lumps z_st z_way_e145 z_wantsMany z_wants z_bestWay_e145) H → va_S A s.heap H locs → lv_has ls 8 [(0, .ref z_o), (1, .int x1), (4, .int y4_e145)] → W p l e rm_X8_could s m args below meth c H locs 0 0 Q (F0 m 145 ls []) := by
        intro y4_e145 z_way_e145 z_bestWay_e145 H locs ls h hW hS hl
        unfold f_X8_could_e145 at h
        refine lv_iload_n (pc := 145) hx hb (tb_at tk_X8_could 82 rfl) rfl (lv_at hl 1 rfl) ?_
        refine lv_if_ge (pc := 146) (tgt := 154) hx hb (tb_at tk_X8_could 83 rfl) (by decide) (fun cc => ?_) (fun cc => ?_)
        · have h := it_t cc h
          refine lv_aload_n (pc := 154) hx hb (tb_at tk_X8_could 86 rfl) rfl (lv_at hl 0 rfl) ?_
          refine k_get (pc := 155) (v := .ref z_bestWay_a) (T := TX8) B inG8 hW 0 rfl rfl 32 (by decide) q_f_X8_62 rfl rfl (tb_at tk_X8_could 87 rfl) ?_
          refine lv_iload_n (pc := 158) hx hb (tb_at tk_X8_could 88 rfl) rfl (lv_at hl 1 rfl) ?_
          have ii := ivi_in (ck_l h)
          have h := ck_r h
          refine k_iald (pc := 159) B hW 5 0 rfl rfl ii (tb_at tk_X8_could 89 rfl) ?_
          refine lv_bipush (pc := 160) (v := 6) hx hb (tb_at tk_X8_could 90 rfl) (by decide) ?_
          refine lv_icmp_ne (pc := 162) (tgt := 170) hx hb (tb_at tk_X8_could 91 rfl) (by decide) (fun cc => ?_) (fun cc => ?_)
          · have h := it_f cc h
            refine lv_aload_n (pc := 170) hx hb (tb_at tk_X8_could 94 rfl) rfl (lv_at hl 0 rfl) ?_
            refine k_get (pc := 171) (v := .ref z_bestWay_a) (T := TX8) B inG8 hW 0 rfl rfl 32 (by decide) q_f_X8_62 rfl rfl (tb_at tk_X8_could 95 rfl) ?_
            refine lv_iload_n (pc := 174) hx hb (tb_at tk_X8_could 96 rfl) rfl (lv_at hl 1 rfl) ?_
            have ii := ivi_in (ck_l h)
            have h := ck_r h
            refine k_iald (pc := 175) B hW 5 0 rfl rfl ii (tb_at tk_X8_could 97 rfl) ?_
            exact hQ (z_bestWay_e145 (x1).toNatClampNeg) (z_way_e145, z_bestWay_e145) _ _ _ 176 rfl h hW hS (tb_at tk_X8_could 98 rfl)
          · have h := it_t cc h
            refine lv_bipush (pc := 165) (v := (-9)) hx hb (tb_at tk_X8_could 92 rfl) (by decide) ?_
            refine lv_goto (pc := 167) (tgt := 176) hx hb (tb_at tk_X8_could 93 rfl) (by decide) ?_
            exact hQ (-9) (z_way_e145, z_bestWay_e145) _ _ _ 176 rfl h hW hS (tb_at tk_X8_could 98 rfl)
        · have h := it_f cc h
          refine lv_iload (pc := 149) hx hb (tb_at tk_X8_could 84 rfl) (lv_at hl 2 rfl) ?_
          refine lv_goto (pc := 151) (tgt := 176) hx hb (tb_at tk_X8_could 85 rfl) (by decide) ?_
          exact hQ y4_e145 (z_way_e145, z_bestWay_e145) _ _ _ 176 rfl h hW hS (tb_at tk_X8_could 98 rfl)
      have w81 : ∀ (n : Nat), ∀ (y4_l81 : Int32) (y5_l81 : Int32) (z_way_l81 : Nat → Int32) (z_bestWay_l81 : Nat → Int32) (H : Heap) (locs : List Loc) (ls : Array Slot), f_X8_could_l81 z_people z_st z_wantsMany z_wants y2_e75 y3_e75 (fun y4_e145 z_way_e145 z_bestWay_e145 => f_X8_could_e145 x1 k y4_e145 z_way_e145 z_bestWay_e145) N n y4_l81 y5_l81 z_way_l81 z_bestWay_l81 = some res → PD (dC, dI) A (w_X8_could cI cZ cQ cW z_o z_weight_a z_wants_a z_wantsMany_a z_st_a z_was_a z_images_a z_isKept_a z_told_a z_text_a z_saidWeight_a z_saidNights_a z_saidWants_a z_saidMany_a z_now_a z_gave_a z_at_a z_way_a z_bestWay_a z_made_a z_people z_known z_toldMany z_trace z_texted z_cursor z_start z_token z_number z_isWrong z_items z_saidPeople z_saidLaw z_ringed z_lumps z_st z_way_l81 z_wantsMany z_wants z_bestWay_l81) H → va_S A s.heap H locs → lv_has ls 8 [(0, .ref z_o), (1, .int x1), (2, .int y2_e75), (3, .int y3_e75), (4, .int y4_l81), (5, .int y5_l81)] → W p l e rm_X8_could s m args below meth c H locs 0 0 Q (F0 m 81 ls []) := by
        intro n
        induction n with
        | zero => intro y4_l81 y5_l81 z_way_l81 z_bestWay_l81 H locs ls h; exact no_n h
        | succ n81 ih81 =>
          intro y4_l81 y5_l81 z_way_l81 z_bestWay_l81 H locs ls h hW hS hl
          rw [f_X8_could_l81] at h
          refine lv_iload (pc := 81) hx hb (tb_at tk_X8_could 51 rfl) (lv_at hl 5 rfl) ?_
          refine lv_iload_n (pc := 83) hx hb (tb_at tk_X8_could 52 rfl) rfl (lv_at hl 3 rfl) ?_
          refine lv_icmp_ge (pc := 84) (tgt := 145) hx hb (tb_at tk_X8_could 53 rfl) (by decide) (fun cc => ?_) (fun cc => ?_)
          · have h := it_t cc h
            exact w145 y4_l81 z_way_l81 z_bestWay_l81 _ _ _ h hW hS (lv_sub hl [0, 1, 4] rfl)
          · have h := it_f cc h
            refine lv_aload_n (pc := 87) hx hb (tb_at tk_X8_could 54 rfl) rfl (lv_at hl 0 rfl) ?_
            refine lv_iload (pc := 88) hx hb (tb_at tk_X8_could 55 rfl) (lv_at hl 5 rfl) ?_
            refine lv_iload_n (pc := 90) hx hb (tb_at tk_X8_could 56 rfl) rfl (lv_at hl 2 rfl) ?_
            refine k_calli (pc := 91) B (k_runVi (rest := []) (C := RX8) B (c_X8_wayOf l dC dI cI cZ cQ cW z_o z_weight_a z_wants_a z_wantsMany_a z_st_a z_was_a z_images_a z_isKept_a z_told_a z_text_a z_saidWeight_a z_saidNights_a z_saidWants_a z_saidMany_a z_now_a z_gave_a z_at_a z_way_a z_bestWay_a z_made_a z_people z_known z_toldMany z_trace z_texted z_cursor z_start z_token z_number z_isWrong z_items z_saidPeople z_saidLaw z_ringed z_lumps z_way_l81 z_st z_wantsMany z_wants y5_l81 y2_e75 N _ res h) E0_st (fun _ _ _ => trivial) q_c_X8_wayOf q_m_X8_197 q_i_X8_wayOf q_s_X8_wayOf q_n_X8 hd_X8_wayOf ⟨rfl, rfl⟩ ⟨Nat.le_of_ble_eq_true rfl, Nat.le_of_ble_eq_true rfl⟩ hW [0, 2, 1, 3, 4] rfl (by decide +kernel) (q0 := 0) (ci := 8) rfl rfl rfl hl.1 rfl (Nat.le_of_ble_eq_true rfl) (tb_at tk_X8_could 57 rfl) ⟨Nat.zero_le _, Nat.zero_le _⟩) hW hS [0, 2, 1, 3, 4] rfl [z_o, z_way_a, z_st_a, z_wantsMany_a, z_wants_a] rfl (fun _ => rfl) [some 0, some 2, some 1, some 3, some 4, none] (by decide +kernel) (fun u => (w_X8_could cI cZ cQ cW z_o z_weight_a z_wants_a z_wantsMany_a z_st_a z_was_a z_images_a z_isKept_a z_told_a z_text_a z_saidWeight_a z_saidNights_a z_saidWants_a z_saidMany_a z_now_a z_gave_a z_at_a z_way_a z_bestWay_a z_made_a z_people z_known z_toldMany z_trace z_texted z_cursor z_start z_token z_number z_isWrong z_items z_saidPeople z_saidLaw z_ringed z_lumps z_st u z_wantsMany z_wants z_bestWay_l81)) (fun _ => rfl) (fun r91 u H locs h hW hS => ?_)
            obtain ⟨z_way_91, rfl⟩ : ∃ z9, z9 = u := ⟨_, rfl⟩
            have hW : PD (dC, dI) A (w_X8_could cI cZ cQ cW z_o z_weight_a z_wants_a z_wantsMany_a z_st_a z_was_a z_images_a z_isKept_a z_told_a z_text_a z_saidWeight_a z_saidNights_a z_saidWants_a z_saidMany_a z_now_a z_gave_a z_at_a z_way_a z_bestWay_a z_made_a z_people z_known z_toldMany z_trace z_texted z_cursor z_start z_token z_number z_isWrong z_items z_saidPeople z_saidLaw z_ringed z_lumps z_st z_way_91 z_wantsMany z_wants z_bestWay_l81) H := hW
            refine lv_istore (pc := 94) (lv' := [(6, .int r91), (0, .ref z_o), (1, .int x1), (2, .int y2_e75), (3, .int y3_e75), (4, .int y4_l81), (5, .int y5_l81)]) hx hb (tb_at tk_X8_could 58 rfl) hl (by decide) rfl (fun ls hl => ?_)
            refine lv_iload (pc := 96) hx hb (tb_at tk_X8_could 59 rfl) (lv_at hl 0 rfl) ?_
            refine lv_iload (pc := 98) hx hb (tb_at tk_X8_could 60 rfl) (lv_at hl 5 rfl) ?_
            refine lv_icmp_le (pc := 100) (tgt := 139) hx hb (tb_at tk_X8_could 61 rfl) (by decide) (fun cc => ?_) (fun cc => ?_)
            · have h := it_t cc h
              refine lv_iinc (pc := 139) (v := y5_l81 + 1) (lv' := [(5, .int (y5_l81 + 1)), (6, .int r91), (0, .ref z_o), (1, .int x1), (2, .int y2_e75), (3, .int y3_e75), (4, .int y4_l81)]) hx hb (tb_at tk_X8_could 80 rfl) hl (k := 6) rfl rfl (by decide) rfl (fun ls hl => ?_)
              refine lv_goto (pc := 142) (tgt := 81) hx hb (tb_at tk_X8_could 81 rfl) (by decide) ?_
              exact ih81 y4_l81 (y5_l81 + 1) z_way_91 z_bestWay_l81 _ _ _ h hW hS (lv_sub hl [2, 3, 4, 5, 6, 0] rfl)
            · have h := it_f cc h
              refine lv_iload (pc := 103) hx hb (tb_at tk_X8_could 62 rfl) (lv_at hl 0 rfl) ?_
              refine lv_istore (pc := 105) (lv' := [(4, .int r91), (6, .int r91), (0, .ref z_o), (1, .int x1), (2, .int y2_e75), (3, .int y3_e75), (5, .int y5_l81)]) hx hb (tb_at tk_X8_could 63 rfl) hl (by decide) rfl (fun ls hl => ?_)
              refine lv_iconst (pc := 107) (v := 0) hx hb (tb_at tk_X8_could 64 rfl) (by decide) ?_
              refine lv_istore (pc := 108) (lv' := [(7, .int 0), (4, .int r91), (6, .int r91), (0, .ref z_o), (1, .int x1), (2, .int y2_e75), (3, .int y3_e75), (5, .int y5_l81)]) hx hb (tb_at tk_X8_could 65 rfl) hl (by decide) rfl (fun ls hl => ?_)
              have w139 : ∀ (z_bestWay_e139 : Nat → Int32) (H : Heap) (locs : List Loc) (ls : Array Slot), f_X8_could_e139 y5_l81 r91 z_way_91 (f_X8_could_l81 z_people z_st z_wantsMany z_wants y2_e75 y3_e75 (fun y4_e145 z_way_e145 z_bestWay_e145 => f_X8_could_e145 x1 k y4_e145 z_way_e145 z_bestWay_e145) N n81) z_bestWay_e139 = some res → PD (dC, dI) A (w_X8_could cI cZ cQ cW z_o z_weight_a z_wants_a z_wantsMany_a z_st_a z_was_a z_images_a z_isKept_a z_told_a z_text_a z_saidWeight_a z_saidNights_a z_saidWants_a z_saidMany_a z_now_a z_gave_a z_at_a z_way_a z_bestWay_a z_made_a z_people z_known z_toldMany z_trace z_texted z_cursor z_start z_token z_number z_isWrong z_items z_saidPeople z_saidLaw z_ringed z_lumps z_st z_way_91 z_wantsMany z_wants z_bestWay_e139) H → va_S A s.heap H locs → lv_has ls 8 [(0, .ref z_o), (1, .int x1), (2, .int y2_e75), (3, .int y3_e75), (4, .int r91), (5, .int y5_l81)] → W p l e rm_X8_could s m args below meth c H locs 0 0 Q (F0 m 139 ls []) := by
                intro z_bestWay_e139 H locs ls h hW hS hl
                unfold f_X8_could_e139 at h
                refine lv_iinc (pc := 139) (v := y5_l81 + 1) (lv' := [(5, .int (y5_l81 + 1)), (0, .ref z_o), (1, .int x1), (2, .int y2_e75), (3, .int y3_e75), (4, .int r91)]) hx hb (tb_at tk_X8_could 80 rfl) hl (k := 5) rfl rfl (by decide) rfl (fun ls hl => ?_)
                refine lv_goto (pc := 142) (tgt := 81) hx hb (tb_at tk_X8_could 81 rfl) (by decide) ?_
                exact ih81 r91 (y5_l81 + 1) z_way_91 z_bestWay_e139 _ _ _ h hW hS (lv_sub hl [1, 2, 3, 4, 5, 0] rfl)
              have w110 : ∀ (n : Nat), ∀ (y7_l110 : Int32) (z_bestWay_l110 : Nat → Int32) (H : Heap) (locs : List Loc) (ls : Array Slot), f_X8_could_l110 z_people z_way_91 (fun z_bestWay_e139 => f_X8_could_e139 y5_l81 r91 z_way_91 (f_X8_could_l81 z_people z_st z_wantsMany z_wants y2_e75 y3_e75 (fun y4_e145 z_way_e145 z_bestWay_e145 => f_X8_could_e145 x1 k y4_e145 z_way_e145 z_bestWay_e145) N n81) z_bestWay_e139) n y7_l110 z_bestWay_l110 = some res → PD (dC, dI) A (w_X8_could cI cZ cQ cW z_o z_weight_a z_wants_a z_wantsMany_a z_st_a z_was_a z_images_a z_isKept_a z_told_a z_text_a z_saidWeight_a z_saidNights_a z_saidWants_a z_saidMany_a z_now_a z_gave_a z_at_a z_way_a z_bestWay_a z_made_a z_people z_known z_toldMany z_trace z_texted z_cursor z_start z_token z_number z_isWrong z_items z_saidPeople z_saidLaw z_ringed z_lumps z_st z_way_91 z_wantsMany z_wants z_bestWay_l110) H → va_S A s.heap H locs → lv_has ls 8 [(0, .ref z_o), (1, .int x1), (2, .int y2_e75), (3, .int y3_e75), (4, .int r91), (5, .int y5_l81), (7, .int y7_l110)] → W p l e rm_X8_could s m args below meth c H locs 0 0 Q (F0 m 110 ls []) := by
                intro n
                induction n with
                | zero => intro y7_l110 z_bestWay_l110 H locs ls h; exact no_n h
                | succ n110 ih110 =>
                  intro y7_l110 z_bestWay_l110 H locs ls h hW hS hl
                  rw [f_X8_could_l110] at h
                  refine lv_iload (pc := 110) hx hb (tb_at tk_X8_could 66 rfl) (lv_at hl 6 rfl) ?_
                  refine lv_aload_n (pc := 112) hx hb (tb_at tk_X8_could 67 rfl) rfl (lv_at hl 0 rfl) ?_
                  refine k_get (pc := 113) (v := .int z_people) (T := TX8) B inG8 hW 0 rfl rfl 0 (by decide) q_f_X8_68 rfl rfl (tb_at tk_X8_could 68 rfl) ?_
                  refine lv_icmp_ge (pc := 116) (tgt := 139) hx hb (tb_at tk_X8_could 69 rfl) (by decide) (fun cc => ?_) (fun cc => ?_)
                  · have h := it_t cc h
                    exact w139 z_bestWay_l110 _ _ _ h hW hS (lv_sub hl [0, 1, 2, 3, 4, 5] rfl)
                  · have h := it_f cc h
                    refine lv_aload_n (pc := 119) hx hb (tb_at tk_X8_could 70 rfl) rfl (lv_at hl 0 rfl) ?_
                    refine k_get (pc := 120) (v := .ref z_bestWay_a) (T := TX8) B inG8 hW 0 rfl rfl 32 (by decide) q_f_X8_62 rfl rfl (tb_at tk_X8_could 71 rfl) ?_
                    refine lv_iload (pc := 123) hx hb (tb_at tk_X8_could 72 rfl) (lv_at hl 6 rfl) ?_
                    refine lv_aload_n (pc := 125) hx hb (tb_at tk_X8_could 73 rfl) rfl (lv_at hl 0 rfl) ?_
                    refine k_get (pc := 126) (v := .ref z_way_a) (T := TX8) B inG8 hW 0 rfl rfl 31 (by decide) q_f_X8_59 rfl rfl (tb_at tk_X8_could 74 rfl) ?_
                    refine lv_iload (pc := 129) hx hb (tb_at tk_X8_could 75 rfl) (lv_at hl 6 rfl) ?_
                    have ii := ivi_in (ck_l h)
                    have h := ck_r h
                    refine k_iald (pc := 131) B hW 2 0 rfl rfl ii (tb_at tk_X8_could 76 rfl) ?_
                    have ii := ivi_in (ck_l h)
                    have h := ck_r h
                    refine k_iast (pc := 132) B hW hS 5 0 rfl rfl ii (tb_at tk_X8_could 77 rfl) (w_X8_could cI cZ cQ cW z_o z_weight_a z_wants_a z_wantsMany_a z_st_a z_was_a z_images_a z_isKept_a z_told_a z_text_a z_saidWeight_a z_saidNights_a z_saidWants_a z_saidMany_a z_now_a z_gave_a z_at_a z_way_a z_bestWay_a z_made_a z_people z_known z_toldMany z_trace z_texted z_cursor z_start z_token z_number z_isWrong z_items z_saidPeople z_saidLaw z_ringed z_lumps z_st z_way_91 z_wantsMany z_wants (upd z_bestWay_l110 (y7_l110).toNatClampNeg (z_way_91 (y7_l110).toNatClampNeg))) rfl (fun H locs hW hS => ?_)
                    refine lv_iinc (pc := 133) (v := y7_l110 + 1) (lv' := [(7, .int (y7_l110 + 1)), (0, .ref z_o), (1, .int x1), (2, .int y2_e75), (3, .int y3_e75), (4, .int r91), (5, .int y5_l81)]) hx hb (tb_at tk_X8_could 78 rfl) hl (k := 6) rfl rfl (by decide) rfl (fun ls hl => ?_)
                    refine lv_goto (pc := 136) (tgt := 110) hx hb (tb_at tk_X8_could 79 rfl) (by decide) ?_
                    exact ih110 (y7_l110 + 1) (upd z_bestWay_l110 (y7_l110).toNatClampNeg (z_way_91 (y7_l110).toNatClampNeg)) _ _ _ h hW hS (lv_sub hl [1, 2, 3, 4, 5, 6, 0] rfl)
              exact w110 N 0 z_bestWay_l81 _ _ _ h hW hS (lv_sub hl [3, 4, 5, 6, 1, 7, 0] rfl)
      exact w81 N (-1) 0 z_way z_bestWay _ _ _ h hW hS (lv_sub hl [2, 3, 4, 5, 1, 0] rfl)
    have w23 : ∀ (n : Nat), ∀ (y2_l23 : Int32) (y3_l23 : Int32) (y4_l23 : Int32) (H : Heap) (locs : List Loc) (ls : Array Slot), f_X8_could_l23 z_people z_st (fun y2_e75 y3_e75 => f_X8_could_e75 x1 z_way z_bestWay z_people z_st z_wantsMany z_wants k N y2_e75 y3_e75) n y2_l23 y3_l23 y4_l23 = some res → PD (dC, dI) A (w_X8_could cI cZ cQ cW z_o z_weight_a z_wants_a z_wantsMany_a z_st_a z_was_a z_images_a z_isKept_a z_told_a z_text_a z_saidWeight_a z_saidNights_a z_saidWants_a z_saidMany_a z_now_a z_gave_a z_at_a z_way_a z_bestWay_a z_made_a z_people z_known z_toldMany z_trace z_texted z_cursor z_start z_token z_number z_isWrong z_items z_saidPeople z_saidLaw z_ringed z_lumps z_st z_way z_wantsMany z_wants z_bestWay) H → va_S A s.heap H locs → lv_has ls 8 [(0, .ref z_o), (1, .int x1), (2, .int y2_l23), (3, .int y3_l23), (4, .int y4_l23)] → W p l e rm_X8_could s m args below meth c H locs 0 0 Q (F0 m 23 ls []) := by
      intro n
      induction n with
      | zero => intro y2_l23 y3_l23 y4_l23 H locs ls h; exact no_n h
      | succ n23 ih23 =>
        intro y2_l23 y3_l23 y4_l23 H locs ls h hW hS hl
        rw [f_X8_could_l23] at h
        refine lv_iload (pc := 23) hx hb (tb_at tk_X8_could 16 rfl) (lv_at hl 4 rfl) ?_
        refine lv_aload_n (pc := 25) hx hb (tb_at tk_X8_could 17 rfl) rfl (lv_at hl 0 rfl) ?_
        refine k_get (pc := 26) (v := .int z_people) (T := TX8) B inG8 hW 0 rfl rfl 0 (by decide) q_f_X8_68 rfl rfl (tb_at tk_X8_could 18 rfl) ?_
        refine lv_icmp_ge (pc := 29) (tgt := 75) hx hb (tb_at tk_X8_could 19 rfl) (by decide) (fun cc => ?_) (fun cc => ?_)
        · have h := it_t cc h
          exact w75 y2_l23 y3_l23 _ _ _ h hW hS (lv_sub hl [0, 1, 2, 3] rfl)
        · have h := it_f cc h
          refine lv_iload_n (pc := 32) hx hb (tb_at tk_X8_could 20 rfl) rfl (lv_at hl 2 rfl) ?_
          refine lv_aload_n (pc := 33) hx hb (tb_at tk_X8_could 21 rfl) rfl (lv_at hl 0 rfl) ?_
          refine k_get (pc := 34) (v := .ref z_st_a) (T := TX8) B inG8 hW 0 rfl rfl 4 (by decide) q_f_X8_19 rfl rfl (tb_at tk_X8_could 22 rfl) ?_
          refine lv_iconst (pc := 37) (v := 0) hx hb (tb_at tk_X8_could 23 rfl) (by decide) ?_
          refine lv_iload (pc := 38) hx hb (tb_at tk_X8_could 24 rfl) (lv_at hl 4 rfl) ?_
          refine lv_iadd (pc := 40) hx hb (tb_at tk_X8_could 25 rfl) ?_
          have ii := ivi_in (ck_l h)
          have h := ck_r h
          refine k_iald (pc := 41) B hW 1 0 rfl rfl ii (tb_at tk_X8_could 26 rfl) ?_
          refine lv_bipush (pc := 42) (v := 6) hx hb (tb_at tk_X8_could 27 rfl) (by decide) ?_
          have w62 : ∀ (s1_j62 : Int32) (H : Heap) (locs : List Loc) (ls : Array Slot), f_X8_could_j62 y2_l23 y3_l23 y4_l23 (f_X8_could_l23 z_people z_st (fun y2_e75 y3_e75 => f_X8_could_e75 x1 z_way z_bestWay z_people z_st z_wantsMany z_wants k N y2_e75 y3_e75) n23) s1_j62 = some res → PD (dC, dI) A (w_X8_could cI cZ cQ cW z_o z_weight_a z_wants_a z_wantsMany_a z_st_a z_was_a z_images_a z_isKept_a z_told_a z_text_a z_saidWeight_a z_saidNights_a z_saidWants_a z_saidMany_a z_now_a z_gave_a z_at_a z_way_a z_bestWay_a z_made_a z_people z_known z_toldMany z_trace z_texted z_cursor z_start z_token z_number z_isWrong z_items z_saidPeople z_saidLaw z_ringed z_lumps z_st z_way z_wantsMany z_wants z_bestWay) H → va_S A s.heap H locs → lv_has ls 8 [(0, .ref z_o), (1, .int x1), (3, .int y3_l23), (4, .int y4_l23)] → W p l e rm_X8_could s m args below meth c H locs 0 0 Q (F0 m 62 ls [.int s1_j62, .int y2_l23]) := by
            intro s1_j62 H locs ls h hW hS hl
            unfold f_X8_could_j62 at h
            refine lv_ior (pc := 62) hx hb (tb_at tk_X8_could 39 rfl) ?_
            refine lv_istore_n (pc := 63) (lv' := [(2, .int (y2_l23 ||| s1_j62)), (0, .ref z_o), (1, .int x1), (3, .int y3_l23), (4, .int y4_l23)]) hx hb (tb_at tk_X8_could 40 rfl) rfl hl (by decide) rfl (fun ls hl => ?_)
            refine lv_iload_n (pc := 64) hx hb (tb_at tk_X8_could 41 rfl) rfl (lv_at hl 3 rfl) ?_
            refine lv_bipush (pc := 65) (v := 7) hx hb (tb_at tk_X8_could 42 rfl) (by decide) ?_
            refine lv_imul (pc := 67) hx hb (tb_at tk_X8_could 43 rfl) ?_
            refine lv_istore_n (pc := 68) (lv' := [(3, .int (y3_l23 * 7)), (2, .int (y2_l23 ||| s1_j62)), (0, .ref z_o), (1, .int x1), (4, .int y4_l23)]) hx hb (tb_at tk_X8_could 44 rfl) rfl hl (by decide) rfl (fun ls hl => ?_)
            refine lv_iinc (pc := 69) (v := y4_l23 + 1) (lv' := [(4, .int (y4_l23 + 1)), (3, .int (y3_l23 * 7)), (2, .int (y2_l23 ||| s1_j62)), (0, .ref z_o), (1, .int x1)]) hx hb (tb_at tk_X8_could 45 rfl) hl (k := 4) rfl rfl (by decide) rfl (fun ls hl => ?_)
            refine lv_goto (pc := 72) (tgt := 23) hx hb (tb_at tk_X8_could 46 rfl) (by decide) ?_
            exact ih23 (y2_l23 ||| s1_j62) (y3_l23 * 7) (y4_l23 + 1) _ _ _ h hW hS (lv_sub hl [3, 4, 2, 1, 0] rfl)
          refine lv_icmp_ge (pc := 44) (tgt := 61) hx hb (tb_at tk_X8_could 28 rfl) (by decide) (fun cc => ?_) (fun cc => ?_)
          · have h := it_t cc h
            refine lv_iconst (pc := 61) (v := 0) hx hb (tb_at tk_X8_could 38 rfl) (by decide) ?_
            exact w62 0 _ _ _ h hW hS (lv_sub hl [0, 1, 3, 4] rfl)
          · have h := it_f cc h
            refine lv_iconst (pc := 47) (v := 1) hx hb (tb_at tk_X8_could 29 rfl) (by decide) ?_
            refine lv_aload_n (pc := 48) hx hb (tb_at tk_X8_could 30 rfl) rfl (lv_at hl 0 rfl) ?_
            refine k_get (pc := 49) (v := .ref z_st_a) (T := TX8) B inG8 hW 0 rfl rfl 4 (by decide) q_f_X8_19 rfl rfl (tb_at tk_X8_could 31 rfl) ?_
            refine lv_iconst (pc := 52) (v := 0) hx hb (tb_at tk_X8_could 32 rfl) (by decide) ?_
            refine lv_iload (pc := 53) hx hb (tb_at tk_X8_could 33 rfl) (lv_at hl 4 rfl) ?_
            refine lv_iadd (pc := 55) hx hb (tb_at tk_X8_could 34 rfl) ?_
            have ii := ivi_in (ck_l h)
            have h := ck_r h
            refine k_iald (pc := 56) B hW 1 0 rfl rfl ii (tb_at tk_X8_could 35 rfl) ?_
            refine lv_ishl (pc := 57) hx hb (tb_at tk_X8_could 36 rfl) ?_
            refine lv_goto (pc := 58) (tgt := 62) hx hb (tb_at tk_X8_could 37 rfl) (by decide) ?_
            exact w62 ((1 : Int32) <<< ((z_st ((0 : Int32) + y4_l23).toNatClampNeg) &&& 31)) _ _ _ h hW hS (lv_sub hl [0, 1, 3, 4] rfl)
    exact w23 N 0 1 0 _ _ _ h hW hS (lv_sub hl [3, 4, 2, 1, 0] rfl)
  · have h := it_t cc h
    refine lv_iconst (pc := 14) (v := (-1)) hx hb (tb_at tk_X8_could 8 rfl) (by decide) ?_
    exact hQ (-1) (z_way, z_bestWay) _ _ _ 15 rfl h hW hS (tb_at tk_X8_could 9 rfl)
def f_X8_lowest_e26 {ρ : Type} (x0 : Int32) (x1 : Int32) (x2 : Int32) (k : Int32 → Option ρ) (y3_e26 : Int32) : Option ρ := if x2 = 0 then (ck (!decide (y3_e26 = 0)) (k (x0 / y3_e26))) else (ck (!decide (y3_e26 = 0)) (k (x1 / y3_e26)))
def f_X8_lowest_l5 {ρ : Type} (k26 : Int32 → Option ρ) : Nat → Int32 → Int32 → Option ρ
  | 0, _, _ => none
  | n5 + 1, y3_l5, y4_l5 => if y4_l5 ≤ 0 then (k26 y3_l5) else (ck (!decide (y4_l5 = 0)) ((f_X8_lowest_l5 k26 n5) y4_l5 (y3_l5 - y3_l5 / y4_l5 * y4_l5)))
def f_X8_lowest {ρ : Type} (N : Nat) (x0 : Int32) (x1 : Int32) (x2 : Int32) (k : Int32 → Option ρ) : Option ρ := f_X8_lowest_l5 (fun y3_e26 => f_X8_lowest_e26 x0 x1 x2 k y3_e26) N x0 x1
abbrev rm_X8_lowest : Room := { frames := 0, cells := 0, slots := 0, locals := 0 }
set_option maxHeartbeats 4000000 in
set_option maxRecDepth 100000 in
theorem c_X8_lowest (l : Launch) (dC : Nat → ClassId) (dI : Nat → Nat → Nat) (cI cZ cQ cW : ClassId) (x0 : Int32) (x1 : Int32) (x2 : Int32) {ρ : Type} (N : Nat) (k : Int32 → Option ρ) (res : ρ) (h : f_X8_lowest N x0 x1 x2 k = some res) : Ci l yX8_lowest (WS yX8_lowest cX8_lowest 6 (some .int)) rm_X8_lowest (dC, dI) (tysG cI cZ cQ cW) E0 [.int x0, .int x1, .int x2] [] (fun (_ : Unit) => []) (fun r _ => k r = some res) := by
  refine Ci.of (cc := cX8_lowest) (n := 6) (by decide +kernel) (Nat.le_of_ble_eq_true rfl) ?_
  intro p e s m args below meth c A ls Q B hW hE hS hl hQ
  have hx := B.1
  have hb := B.2.1
  have hl : lv_has ls 6 [(0, .int x0), (1, .int x1), (2, .int x2)] := hl
  unfold f_X8_lowest at h
  refine lv_iload_n (pc := 0) hx hb (tb_at tk_X8_lowest 0 rfl) rfl (lv_at hl 0 rfl) ?_
  refine lv_istore_n (pc := 1) (lv' := [(3, .int x0), (0, .int x0), (1, .int x1), (2, .int x2)]) hx hb (tb_at tk_X8_lowest 1 rfl) rfl hl (by decide) rfl (fun ls hl => ?_)
  refine lv_iload_n (pc := 2) hx hb (tb_at tk_X8_lowest 2 rfl) rfl (lv_at hl 2 rfl) ?_
  refine lv_istore (pc := 3) (lv' := [(4, .int x1), (3, .int x0), (0, .int x0), (1, .int x1), (2, .int x2)]) hx hb (tb_at tk_X8_lowest 3 rfl) hl (by decide) rfl (fun ls hl => ?_)
  have w26 : ∀ (y3_e26 : Int32) (H : Heap) (locs : List Loc) (ls : Array Slot), f_X8_lowest_e26 x0 x1 x2 k y3_e26 = some res → PD (dC, dI) A [] H → va_S A s.heap H locs → lv_has ls 6 [(0, .int x0), (1, .int x1), (2, .int x2), (3, .int y3_e26)] → W p l e rm_X8_lowest s m args below meth c H locs 0 0 Q (F0 m 26 ls []) := by
    intro y3_e26 H locs ls h hW hS hl
    unfold f_X8_lowest_e26 at h
    refine lv_iload_n (pc := 26) hx hb (tb_at tk_X8_lowest 15 rfl) rfl (lv_at hl 2 rfl) ?_
    refine lv_if_ne (pc := 27) (tgt := 34) hx hb (tb_at tk_X8_lowest 16 rfl) (by decide) (fun cc => ?_) (fun cc => ?_)
    · have h := it_f cc h
      refine lv_iload_n (pc := 34) hx hb (tb_at tk_X8_lowest 19 rfl) rfl (lv_at hl 1 rfl) ?_
      refine lv_iload_n (pc := 35) hx hb (tb_at tk_X8_lowest 20 rfl) rfl (lv_at hl 3 rfl) ?_
      have dz := dz_n (ck_l h)
      have h := ck_r h
      refine lv_idiv (pc := 36) hx hb (tb_at tk_X8_lowest 21 rfl) dz ?_
      exact hQ (x1 / y3_e26) () _ _ _ 37 rfl h hW hS (tb_at tk_X8_lowest 22 rfl)
    · have h := it_t cc h
      refine lv_iload_n (pc := 30) hx hb (tb_at tk_X8_lowest 17 rfl) rfl (lv_at hl 0 rfl) ?_
      refine lv_goto (pc := 31) (tgt := 35) hx hb (tb_at tk_X8_lowest 18 rfl) (by decide) ?_
      refine lv_iload_n (pc := 35) hx hb (tb_at tk_X8_lowest 20 rfl) rfl (lv_at hl 3 rfl) ?_
      have dz := dz_n (ck_l h)
      have h := ck_r h
      refine lv_idiv (pc := 36) hx hb (tb_at tk_X8_lowest 21 rfl) dz ?_
      exact hQ (x0 / y3_e26) () _ _ _ 37 rfl h hW hS (tb_at tk_X8_lowest 22 rfl)
  have w5 : ∀ (n : Nat), ∀ (y3_l5 : Int32) (y4_l5 : Int32) (H : Heap) (locs : List Loc) (ls : Array Slot), f_X8_lowest_l5 (fun y3_e26 => f_X8_lowest_e26 x0 x1 x2 k y3_e26) n y3_l5 y4_l5 = some res → PD (dC, dI) A [] H → va_S A s.heap H locs → lv_has ls 6 [(0, .int x0), (1, .int x1), (2, .int x2), (3, .int y3_l5), (4, .int y4_l5)] → W p l e rm_X8_lowest s m args below meth c H locs 0 0 Q (F0 m 5 ls []) := by
    intro n
    induction n with
    | zero => intro y3_l5 y4_l5 H locs ls h; exact no_n h
    | succ n5 ih5 =>
      intro y3_l5 y4_l5 H locs ls h hW hS hl
      rw [f_X8_lowest_l5] at h
      refine lv_iload (pc := 5) hx hb (tb_at tk_X8_lowest 4 rfl) (lv_at hl 4 rfl) ?_
      refine lv_if_le (pc := 7) (tgt := 26) hx hb (tb_at tk_X8_lowest 5 rfl) (by decide) (fun cc => ?_) (fun cc => ?_)
      · have h := it_t cc h
        exact w26 y3_l5 _ _ _ h hW hS (lv_sub hl [0, 1, 2, 3] rfl)
      · have h := it_f cc h
        refine lv_iload_n (pc := 10) hx hb (tb_at tk_X8_lowest 6 rfl) rfl (lv_at hl 3 rfl) ?_
        refine lv_iload (pc := 11) hx hb (tb_at tk_X8_lowest 7 rfl) (lv_at hl 4 rfl) ?_
        have dz := dz_n (ck_l h)
        have h := ck_r h
        refine lv_irem (pc := 13) hx hb (tb_at tk_X8_lowest 8 rfl) dz ?_
        refine lv_istore (pc := 14) (lv' := [(5, .int (y3_l5 - y3_l5 / y4_l5 * y4_l5)), (0, .int x0), (1, .int x1), (2, .int x2), (3, .int y3_l5), (4, .int y4_l5)]) hx hb (tb_at tk_X8_lowest 9 rfl) hl (by decide) rfl (fun ls hl => ?_)
        refine lv_iload (pc := 16) hx hb (tb_at tk_X8_lowest 10 rfl) (lv_at hl 5 rfl) ?_
        refine lv_istore_n (pc := 18) (lv' := [(3, .int y4_l5), (5, .int (y3_l5 - y3_l5 / y4_l5 * y4_l5)), (0, .int x0), (1, .int x1), (2, .int x2), (4, .int y4_l5)]) hx hb (tb_at tk_X8_lowest 11 rfl) rfl hl (by decide) rfl (fun ls hl => ?_)
        refine lv_iload (pc := 19) hx hb (tb_at tk_X8_lowest 12 rfl) (lv_at hl 1 rfl) ?_
        refine lv_istore (pc := 21) (lv' := [(4, .int (y3_l5 - y3_l5 / y4_l5 * y4_l5)), (3, .int y4_l5), (5, .int (y3_l5 - y3_l5 / y4_l5 * y4_l5)), (0, .int x0), (1, .int x1), (2, .int x2)]) hx hb (tb_at tk_X8_lowest 13 rfl) hl (by decide) rfl (fun ls hl => ?_)
        refine lv_goto (pc := 23) (tgt := 5) hx hb (tb_at tk_X8_lowest 14 rfl) (by decide) ?_
        exact ih5 y4_l5 (y3_l5 - y3_l5 / y4_l5 * y4_l5) _ _ _ h hW hS (lv_sub hl [3, 4, 5, 1, 0] rfl)
  exact w5 N x0 x1 _ _ _ h hW hS (lv_sub hl [2, 3, 4, 1, 0] rfl)
def f_X8_odds_e237 {ρ : Type} (x3 : Int32) (y6_e97 : Int32) (k : Int32 → Int32 → Int32 → (Nat → Int32) → (Nat → Int32) → (Nat → Int32) → Option ρ) (N : Nat) (y5_e237 : Int32) (z_ringed_e237 : Int32) (z_lumps_e237 : Int32) (z_now_e237 : Nat → Int32) (z_gave_e237 : Nat → Int32) (z_at_e237 : Nat → Int32) : Option ρ := f_X8_lowest N y5_e237 y6_e97 x3 (fun r242 => k r242 z_ringed_e237 z_lumps_e237 z_now_e237 z_gave_e237 z_at_e237)
def f_X8_odds_j228 {ρ : Type} (y5_l100 : Int32) (y7_l100 : Int32) (z_ringed_206 : Int32) (z_lumps_206 : Int32) (z_now_206 : Nat → Int32) (z_gave_206 : Nat → Int32) (z_at_206 : Nat → Int32) (kb100 : Int32 → Int32 → Int32 → Int32 → (Nat → Int32) → (Nat → Int32) → (Nat → Int32) → Option ρ) (s1_j228 : Int32) : Option ρ := kb100 (y5_l100 + s1_j228) (y7_l100 + 1) z_ringed_206 z_lumps_206 z_now_206 z_gave_206 z_at_206
def f_X8_odds_e192 {ρ : Type} (x1 : Int32) (z_people : Int32) (z_st : Nat → Int32) (z_wantsMany : Nat → Int32) (z_wants : Nat → Int32) (z_weight : Nat → Int32) (y5_l100 : Int32) (y7_l100 : Int32) (z_now_l100 : Nat → Int32) (z_gave_l100 : Nat → Int32) (z_at_l100 : Nat → Int32) (kb100 : Int32 → Int32 → Int32 → Int32 → (Nat → Int32) → (Nat → Int32) → (Nat → Int32) → Option ρ) (N : Nat) (y8_e192 : Int32) : Option ρ := f_X8_asItIs N z_st z_now_l100 (fun z_now_193 => ck (ivi (24 : Int32) 25) (f_X8_goesBy N z_people z_now_193 z_gave_l100 z_wantsMany z_wants z_weight z_at_l100 y7_l100 (z_st ((24 : Int32)).toNatClampNeg) (fun z_ringed_206 z_lumps_206 z_now_206 z_gave_206 z_at_206 => f_X8_has N z_ringed_206 x1 (fun r216 => if r216 = 0 then (f_X8_odds_j228 y5_l100 y7_l100 z_ringed_206 z_lumps_206 z_now_206 z_gave_206 z_at_206 kb100 0) else (f_X8_odds_j228 y5_l100 y7_l100 z_ringed_206 z_lumps_206 z_now_206 z_gave_206 z_at_206 kb100 y8_e192)))))
def f_X8_odds_j183 {ρ : Type} (y8_l134 : Int32) (y9_l134 : Int32) (kb134 : Int32 → Int32 → Option ρ) (s1_j183 : Int32) : Option ρ := kb134 (y8_l134 * s1_j183) (y9_l134 + 1)
def f_X8_odds_j161 {ρ : Type} (y8_l134 : Int32) (y9_l134 : Int32) (kb134 : Int32 → Int32 → Option ρ) : Option ρ := f_X8_odds_j183 y8_l134 y9_l134 kb134 1
def f_X8_odds_l134 {ρ : Type} (x1 : Int32) (x2 : Int32) (z_people : Int32) (r30 : Int32) (y7_l100 : Int32) (k192 : Int32 → Option ρ) (N : Nat) : Nat → Int32 → Int32 → Option ρ
  | 0, _, _ => none
  | n134 + 1, y8_l134, y9_l134 => if z_people ≤ y9_l134 then (k192 y8_l134) else (if y9_l134 = x1 then (f_X8_odds_j161 y8_l134 y9_l134 (f_X8_odds_l134 x1 x2 z_people r30 y7_l100 k192 N n134) ) else (f_X8_has N r30 y9_l134 (fun r155 => if r155 = 0 then (f_X8_odds_j161 y8_l134 y9_l134 (f_X8_odds_l134 x1 x2 z_people r30 y7_l100 k192 N n134) ) else (f_X8_has N y7_l100 y9_l134 (fun r169 => if r169 = 0 then (f_X8_odds_j183 y8_l134 y9_l134 (f_X8_odds_l134 x1 x2 z_people r30 y7_l100 k192 N n134) ((10 : Int32) - x2)) else (f_X8_odds_j183 y8_l134 y9_l134 (f_X8_odds_l134 x1 x2 z_people r30 y7_l100 k192 N n134) x2))))))
def f_X8_odds_l100 {ρ : Type} (x1 : Int32) (x2 : Int32) (z_people : Int32) (z_st : Nat → Int32) (z_wantsMany : Nat → Int32) (z_wants : Nat → Int32) (z_weight : Nat → Int32) (r30 : Int32) (k237 : Int32 → Int32 → Int32 → (Nat → Int32) → (Nat → Int32) → (Nat → Int32) → Option ρ) (N : Nat) : Nat → Int32 → Int32 → Int32 → Int32 → (Nat → Int32) → (Nat → Int32) → (Nat → Int32) → Option ρ
  | 0, _, _, _, _, _, _, _ => none
  | n100 + 1, y5_l100, y7_l100, z_ringed_l100, z_lumps_l100, z_now_l100, z_gave_l100, z_at_l100 => f_X8_all N z_people (fun r103 => if r103 < y7_l100 then (k237 y5_l100 z_ringed_l100 z_lumps_l100 z_now_l100 z_gave_l100 z_at_l100) else (if (y7_l100 &&& (r30 ^^^ (-1))) = 0 then (f_X8_has N y7_l100 x1 (fun r122 => if r122 = 0 then ((f_X8_odds_l100 x1 x2 z_people z_st z_wantsMany z_wants z_weight r30 k237 N n100) y5_l100 (y7_l100 + 1) z_ringed_l100 z_lumps_l100 z_now_l100 z_gave_l100 z_at_l100) else (f_X8_odds_l134 x1 x2 z_people r30 y7_l100 (fun y8_e192 => f_X8_odds_e192 x1 z_people z_st z_wantsMany z_wants z_weight y5_l100 y7_l100 z_now_l100 z_gave_l100 z_at_l100 (f_X8_odds_l100 x1 x2 z_people z_st z_wantsMany z_wants z_weight r30 k237 N n100) N y8_e192) N N 1 0))) else ((f_X8_odds_l100 x1 x2 z_people z_st z_wantsMany z_wants z_weight r30 k237 N n100) y5_l100 (y7_l100 + 1) z_ringed_l100 z_lumps_l100 z_now_l100 z_gave_l100 z_at_l100)))
def f_X8_odds_e97 {ρ : Type} (x1 : Int32) (x2 : Int32) (x3 : Int32) (z_now : Nat → Int32) (z_ringed : Int32) (z_lumps : Int32) (z_gave : Nat → Int32) (z_at : Nat → Int32) (z_people : Int32) (z_st : Nat → Int32) (z_wantsMany : Nat → Int32) (z_wants : Nat → Int32) (z_weight : Nat → Int32) (r30 : Int32) (k : Int32 → Int32 → Int32 → (Nat → Int32) → (Nat → Int32) → (Nat → Int32) → Option ρ) (N : Nat) (y6_e97 : Int32) : Option ρ := f_X8_odds_l100 x1 x2 z_people z_st z_wantsMany z_wants z_weight r30 (fun y5_e237 z_ringed_e237 z_lumps_e237 z_now_e237 z_gave_e237 z_at_e237 => f_X8_odds_e237 x3 y6_e97 k N y5_e237 z_ringed_e237 z_lumps_e237 z_now_e237 z_gave_e237 z_at_e237) N N 0 0 z_ringed z_lumps z_now z_gave z_at
def f_X8_odds_j88 {ρ : Type} (y6_l55 : Int32) (y7_l55 : Int32) (kb55 : Int32 → Int32 → Option ρ) (s1_j88 : Int32) : Option ρ := kb55 (y6_l55 * s1_j88) (y7_l55 + 1)
def f_X8_odds_j87 {ρ : Type} (y6_l55 : Int32) (y7_l55 : Int32) (kb55 : Int32 → Int32 → Option ρ) : Option ρ := f_X8_odds_j88 y6_l55 y7_l55 kb55 1
def f_X8_odds_l55 {ρ : Type} (x1 : Int32) (z_people : Int32) (r30 : Int32) (k97 : Int32 → Option ρ) (N : Nat) : Nat → Int32 → Int32 → Option ρ
  | 0, _, _ => none
  | n55 + 1, y6_l55, y7_l55 => if z_people ≤ y7_l55 then (k97 y6_l55) else (if y7_l55 = x1 then (f_X8_odds_j87 y6_l55 y7_l55 (f_X8_odds_l55 x1 z_people r30 k97 N n55) ) else (f_X8_has N r30 y7_l55 (fun r76 => if r76 = 0 then (f_X8_odds_j87 y6_l55 y7_l55 (f_X8_odds_l55 x1 z_people r30 k97 N n55) ) else (f_X8_odds_j88 y6_l55 y7_l55 (f_X8_odds_l55 x1 z_people r30 k97 N n55) 10))))
def f_X8_odds {ρ : Type} (N : Nat) (z_people : Int32) (z_ringed : Int32) (z_lumps : Int32) (z_st : Nat → Int32) (z_now : Nat → Int32) (z_gave : Nat → Int32) (z_wantsMany : Nat → Int32) (z_wants : Nat → Int32) (z_weight : Nat → Int32) (z_at : Nat → Int32) (x1 : Int32) (x2 : Int32) (x3 : Int32) (k : Int32 → Int32 → Int32 → (Nat → Int32) → (Nat → Int32) → (Nat → Int32) → Option ρ) : Option ρ := f_X8_isPerson N z_people x1 (fun r2 => if r2 = 0 then (k (-1) z_ringed z_lumps z_now z_gave z_at) else (f_X8_in N x2 0 10 (fun r12 => if r12 = 0 then (k (-1) z_ringed z_lumps z_now z_gave z_at) else (f_X8_in N x3 0 1 (fun r21 => if r21 = 0 then (k (-1) z_ringed z_lumps z_now z_gave z_at) else (f_X8_able N z_people z_st (fun r30 => f_X8_has N r30 x1 (fun r38 => if r38 = 0 then (k x3 z_ringed z_lumps z_now z_gave z_at) else (f_X8_odds_l55 x1 z_people r30 (fun y6_e97 => f_X8_odds_e97 x1 x2 x3 z_now z_ringed z_lumps z_gave z_at z_people z_st z_wantsMany z_wants z_weight r30 k N y6_e97) N N 1 0)))))))))
abbrev w_X8_odds (cI cZ cQ cW : ClassId) (z_o : Nat) (z_weight_a : Nat) (z_wants_a : Nat) (z_wantsMany_a : Nat) (z_st_a : Nat) (z_was_a : Nat) (z_images_a : Nat) (z_isKept_a : Nat) (z_told_a : Nat) (z_text_a : Nat) (z_saidWeight_a : Nat) (z_saidNights_a : Nat) (z_saidWants_a : Nat) (z_saidMany_a : Nat) (z_now_a : Nat) (z_gave_a : Nat) (z_at_a : Nat) (z_way_a : Nat) (z_bestWay_a : Nat) (z_made_a : Nat) (z_people : Int32) (z_known : Int32) (z_toldMany : Int32) (z_trace : Int64) (z_texted : Int32) (z_cursor : Int32) (z_start : Int32) (z_token : Int32) (z_number : Int32) (z_isWrong : Int32) (z_items : Int32) (z_saidPeople : Int32) (z_saidLaw : Int32) (z_ringed : Int32) (z_lumps : Int32) (z_st : Nat → Int32) (z_now : Nat → Int32) (z_gave : Nat → Int32) (z_wantsMany : Nat → Int32) (z_wants : Nat → Int32) (z_weight : Nat → Int32) (z_at : Nat → Int32) : va_W := [(z_o, .inr (8, [.int z_people, .ref z_weight_a, .ref z_wants_a, .ref z_wantsMany_a, .ref z_st_a, .ref z_was_a, .int z_known, .ref z_images_a, .ref z_isKept_a, .int z_toldMany, .ref z_told_a, .long z_trace, .ref z_text_a, .int z_texted, .int z_cursor, .int z_start, .int z_token, .int z_number, .int z_isWrong, .int z_items, .int z_saidPeople, .ref z_saidWeight_a, .ref z_saidNights_a, .ref z_saidWants_a, .ref z_saidMany_a, .int z_saidLaw, .ref z_now_a, .ref z_gave_a, .ref z_at_a, .int z_ringed, .int z_lumps, .ref z_way_a, .ref z_bestWay_a, .ref z_made_a])), (z_st_a, .inl (cI, 25, .inl z_st)), (z_now_a, .inl (cI, 25, .inl z_now)), (z_gave_a, .inl (cI, 6, .inl z_gave)), (z_wantsMany_a, .inl (cI, 6, .inl z_wantsMany)), (z_wants_a, .inl (cI, 24, .inl z_wants)), (z_weight_a, .inl (cI, 6, .inl z_weight)), (z_at_a, .inl (cI, 6, .inl z_at))]
abbrev rm_X8_odds : Room := { frames := 4, cells := 0, slots := 0, locals := 101 }
set_option maxHeartbeats 4000000 in
set_option maxRecDepth 100000 in
theorem c_X8_odds (l : Launch) (dC : Nat → ClassId) (dI : Nat → Nat → Nat) (cI cZ cQ cW : ClassId) (z_o : Nat) (z_weight_a : Nat) (z_wants_a : Nat) (z_wantsMany_a : Nat) (z_st_a : Nat) (z_was_a : Nat) (z_images_a : Nat) (z_isKept_a : Nat) (z_told_a : Nat) (z_text_a : Nat) (z_saidWeight_a : Nat) (z_saidNights_a : Nat) (z_saidWants_a : Nat) (z_saidMany_a : Nat) (z_now_a : Nat) (z_gave_a : Nat) (z_at_a : Nat) (z_way_a : Nat) (z_bestWay_a : Nat) (z_made_a : Nat) (z_people : Int32) (z_known : Int32) (z_toldMany : Int32) (z_trace : Int64) (z_texted : Int32) (z_cursor : Int32) (z_start : Int32) (z_token : Int32) (z_number : Int32) (z_isWrong : Int32) (z_items : Int32) (z_saidPeople : Int32) (z_saidLaw : Int32) (z_ringed : Int32) (z_lumps : Int32) (z_st : Nat → Int32) (z_now : Nat → Int32) (z_gave : Nat → Int32) (z_wantsMany : Nat → Int32) (z_wants : Nat → Int32) (z_weight : Nat → Int32) (z_at : Nat → Int32) (x1 : Int32) (x2 : Int32) (x3 : Int32) {ρ : Type} (N : Nat) (k : Int32 → Int32 → Int32 → (Nat → Int32) → (Nat → Int32) → (Nat → Int32) → Option ρ) (res : ρ) (h : f_X8_odds N z_people z_ringed z_lumps z_st z_now z_gave z_wantsMany z_wants z_weight z_at x1 x2 x3 k = some res) : Ci l yX8_odds (WS yX8_odds cX8_odds 10 (some .int)) rm_X8_odds (dC, dI) (tysG cI cZ cQ cW) E0 [.ref z_o, .int x1, .int x2, .int x3] (w_X8_odds cI cZ cQ cW z_o z_weight_a z_wants_a z_wantsMany_a z_st_a z_was_a z_images_a z_isKept_a z_told_a z_text_a z_saidWeight_a z_saidNights_a z_saidWants_a z_saidMany_a z_now_a z_gave_a z_at_a z_way_a z_bestWay_a z_made_a z_people z_known z_toldMany z_trace z_texted z_cursor z_start z_token z_number z_isWrong z_items z_saidPeople z_saidLaw z_ringed z_lumps z_st z_now z_gave z_wantsMany z_wants z_weight z_at) (fun (u : Int32 × Int32 × (Nat → Int32) × (Nat → Int32) × (Nat → Int32)) => (w_X8_odds cI cZ cQ cW z_o z_weight_a z_wants_a z_wantsMany_a z_st_a z_was_a z_images_a z_isKept_a z_told_a z_text_a z_saidWeight_a z_saidNights_a z_saidWants_a z_saidMany_a z_now_a z_gave_a z_at_a z_way_a z_bestWay_a z_made_a z_people z_known z_toldMany z_trace z_texted z_cursor z_start z_token z_number z_isWrong z_items z_saidPeople z_saidLaw u.1 u.2.1 z_st u.2.2.1 u.2.2.2.1 z_wantsMany z_wants z_weight u.2.2.2.2)) (fun r u => k r u.1 u.2.1 u.2.2.1 u.2.2.2.1 u.2.2.2.2 = some res) := by
  refine Ci.of (cc := cX8_odds) (n := 10) (by decide +kernel) (Nat.le_of_ble_eq_true rfl) ?_
  intro p e s m args below meth c A ls Q B hW hE hS hl hQ
  have hx := B.1
  have hb := B.2.1
  have hl : lv_has ls 10 [(0, .ref z_o), (1, .int x1), (2, .int x2), (3, .int x3)] := hl
  unfold f_X8_odds at h
  refine lv_aload_n (pc := 0) hx hb (tb_at tk_X8_odds 0 rfl) rfl (lv_at hl 0 rfl) ?_
  refine lv_iload_n (pc := 1) hx hb (tb_at tk_X8_odds 1 rfl) rfl (lv_at hl 1 rfl) ?_
  refine k_calli (pc := 2) B (k_runVi (rest := []) (C := RX8) B (c_X8_isPerson l dC dI cI cZ cQ cW z_o z_weight_a z_wants_a z_wantsMany_a z_st_a z_was_a z_images_a z_isKept_a z_told_a z_text_a z_saidWeight_a z_saidNights_a z_saidWants_a z_saidMany_a z_now_a z_gave_a z_at_a z_way_a z_bestWay_a z_made_a z_people z_known z_toldMany z_trace z_texted z_cursor z_start z_token z_number z_isWrong z_items z_saidPeople z_saidLaw z_ringed z_lumps x1 N _ res h) E0_st (fun _ _ _ => trivial) q_c_X8_isPerson q_m_X8_168 q_i_X8_isPerson q_s_X8_isPerson q_n_X8 hd_X8_isPerson ⟨rfl, rfl⟩ ⟨Nat.le_of_ble_eq_true rfl, Nat.le_of_ble_eq_true rfl⟩ hW [0] rfl (by decide +kernel) (q0 := 0) (ci := 8) rfl rfl rfl hl.1 rfl (Nat.le_of_ble_eq_true rfl) (tb_at tk_X8_odds 2 rfl) ⟨Nat.zero_le _, Nat.zero_le _⟩) hW hS [0] rfl [z_o] rfl (fun _ => rfl) [some 0, none, none, none, none, none, none, none] (by decide +kernel) (fun _ => (w_X8_odds cI cZ cQ cW z_o z_weight_a z_wants_a z_wantsMany_a z_st_a z_was_a z_images_a z_isKept_a z_told_a z_text_a z_saidWeight_a z_saidNights_a z_saidWants_a z_saidMany_a z_now_a z_gave_a z_at_a z_way_a z_bestWay_a z_made_a z_people z_known z_toldMany z_trace z_texted z_cursor z_start z_token z_number z_isWrong z_items z_saidPeople z_saidLaw z_ringed z_lumps z_st z_now z_gave z_wantsMany z_wants z_weight z_at)) (fun _ => rfl) (fun r2 u H locs h hW hS => ?_)
  have hW : PD (dC, dI) A (w_X8_odds cI cZ cQ cW z_o z_weight_a z_wants_a z_wantsMany_a z_st_a z_was_a z_images_a z_isKept_a z_told_a z_text_a z_saidWeight_a z_saidNights_a z_saidWants_a z_saidMany_a z_now_a z_gave_a z_at_a z_way_a z_bestWay_a z_made_a z_people z_known z_toldMany z_trace z_texted z_cursor z_start z_token z_number z_isWrong z_items z_saidPeople z_saidLaw z_ringed z_lumps z_st z_now z_gave z_wantsMany z_wants z_weight z_at) H := hW
  refine lv_if_eq (pc := 5) (tgt := 27) hx hb (tb_at tk_X8_odds 3 rfl) (by decide) (fun cc => ?_) (fun cc => ?_)
  · have h := it_t cc h
    refine lv_iconst (pc := 27) (v := (-1)) hx hb (tb_at tk_X8_odds 14 rfl) (by decide) ?_
    exact hQ (-1) (z_ringed, z_lumps, z_now, z_gave, z_at) _ _ _ 28 rfl h hW hS (tb_at tk_X8_odds 15 rfl)
  · have h := it_f cc h
    refine lv_iload_n (pc := 8) hx hb (tb_at tk_X8_odds 4 rfl) rfl (lv_at hl 2 rfl) ?_
    refine lv_iconst (pc := 9) (v := 0) hx hb (tb_at tk_X8_odds 5 rfl) (by decide) ?_
    refine lv_bipush (pc := 10) (v := 10) hx hb (tb_at tk_X8_odds 6 rfl) (by decide) ?_
    refine k_call0 (pc := 12) B (k_runSi (rest := []) (host := "") B (c_X8_in l dC dI cI cZ cQ cW   x2 0 10 N _ res h) E0_st (fun _ _ _ => trivial) q_c_X8_in q_m_X8_72 q_t_X8_in q_n_X8 hd_X8_in ⟨rfl, rfl⟩ ⟨Nat.le_of_ble_eq_true rfl, Nat.le_of_ble_eq_true rfl⟩ hW [] rfl (by decide +kernel) rfl hl.1 rfl (Nat.le_of_ble_eq_true rfl) (tb_at tk_X8_odds 7 rfl) ⟨Nat.zero_le _, Nat.zero_le _⟩) hW hS (fun r12 u H locs h hW hS => ?_)
    refine lv_if_eq (pc := 15) (tgt := 27) hx hb (tb_at tk_X8_odds 8 rfl) (by decide) (fun cc => ?_) (fun cc => ?_)
    · have h := it_t cc h
      refine lv_iconst (pc := 27) (v := (-1)) hx hb (tb_at tk_X8_odds 14 rfl) (by decide) ?_
      exact hQ (-1) (z_ringed, z_lumps, z_now, z_gave, z_at) _ _ _ 28 rfl h hW hS (tb_at tk_X8_odds 15 rfl)
    · have h := it_f cc h
      refine lv_iload_n (pc := 18) hx hb (tb_at tk_X8_odds 9 rfl) rfl (lv_at hl 3 rfl) ?_
      refine lv_iconst (pc := 19) (v := 0) hx hb (tb_at tk_X8_odds 10 rfl) (by decide) ?_
      refine lv_iconst (pc := 20) (v := 1) hx hb (tb_at tk_X8_odds 11 rfl) (by decide) ?_
      refine k_call0 (pc := 21) B (k_runSi (rest := []) (host := "") B (c_X8_in l dC dI cI cZ cQ cW   x3 0 1 N _ res h) E0_st (fun _ _ _ => trivial) q_c_X8_in q_m_X8_72 q_t_X8_in q_n_X8 hd_X8_in ⟨rfl, rfl⟩ ⟨Nat.le_of_ble_eq_true rfl, Nat.le_of_ble_eq_true rfl⟩ hW [] rfl (by decide +kernel) rfl hl.1 rfl (Nat.le_of_ble_eq_true rfl) (tb_at tk_X8_odds 12 rfl) ⟨Nat.zero_le _, Nat.zero_le _⟩) hW hS (fun r21 u H locs h hW hS => ?_)
      refine lv_if_ne (pc := 24) (tgt := 29) hx hb (tb_at tk_X8_odds 13 rfl) (by decide) (fun cc => ?_) (fun cc => ?_)
      · have h := it_f cc h
        refine lv_aload_n (pc := 29) hx hb (tb_at tk_X8_odds 16 rfl) rfl (lv_at hl 0 rfl) ?_
        refine k_calli (pc := 30) B (k_runVi (rest := []) (C := RX8) B (c_X8_able l dC dI cI cZ cQ cW z_o z_weight_a z_wants_a z_wantsMany_a z_st_a z_was_a z_images_a z_isKept_a z_told_a z_text_a z_saidWeight_a z_saidNights_a z_saidWants_a z_saidMany_a z_now_a z_gave_a z_at_a z_way_a z_bestWay_a z_made_a z_people z_known z_toldMany z_trace z_texted z_cursor z_start z_token z_number z_isWrong z_items z_saidPeople z_saidLaw z_ringed z_lumps z_st  N _ res h) E0_st (fun _ _ _ => trivial) q_c_X8_able q_m_X8_171 q_i_X8_able q_s_X8_able q_n_X8 hd_X8_able ⟨rfl, rfl⟩ ⟨Nat.le_of_ble_eq_true rfl, Nat.le_of_ble_eq_true rfl⟩ hW [0, 1] rfl (by decide +kernel) (q0 := 0) (ci := 8) rfl rfl rfl hl.1 rfl (Nat.le_of_ble_eq_true rfl) (tb_at tk_X8_odds 17 rfl) ⟨Nat.zero_le _, Nat.zero_le _⟩) hW hS [0, 1] rfl [z_o, z_st_a] rfl (fun _ => rfl) [some 0, some 1, none, none, none, none, none, none] (by decide +kernel) (fun _ => (w_X8_odds cI cZ cQ cW z_o z_weight_a z_wants_a z_wantsMany_a z_st_a z_was_a z_images_a z_isKept_a z_told_a z_text_a z_saidWeight_a z_saidNights_a z_saidWants_a z_saidMany_a z_now_a z_gave_a z_at_a z_way_a z_bestWay_a z_made_a z_people z_known z_toldMany z_trace z_texted z_cursor z_start z_token z_number z_isWrong z_items z_saidPeople z_saidLaw z_ringed z_lumps z_st z_now z_gave z_wantsMany z_wants z_weight z_at)) (fun _ => rfl) (fun r30 u H locs h hW hS => ?_)
        have hW : PD (dC, dI) A (w_X8_odds cI cZ cQ cW z_o z_weight_a z_wants_a z_wantsMany_a z_st_a z_was_a z_images_a z_isKept_a z_told_a z_text_a z_saidWeight_a z_saidNights_a z_saidWants_a z_saidMany_a z_now_a z_gave_a z_at_a z_way_a z_bestWay_a z_made_a z_people z_known z_toldMany z_trace z_texted z_cursor z_start z_token z_number z_isWrong z_items z_saidPeople z_saidLaw z_ringed z_lumps z_st z_now z_gave z_wantsMany z_wants z_weight z_at) H := hW
        refine lv_istore (pc := 33) (lv' := [(4, .int r30), (0, .ref z_o), (1, .int x1), (2, .int x2), (3, .int x3)]) hx hb (tb_at tk_X8_odds 18 rfl) hl (by decide) rfl (fun ls hl => ?_)
        refine lv_iload (pc := 35) hx hb (tb_at tk_X8_odds 19 rfl) (lv_at hl 0 rfl) ?_
        refine lv_iload_n (pc := 37) hx hb (tb_at tk_X8_odds 20 rfl) rfl (lv_at hl 2 rfl) ?_
        refine k_call0 (pc := 38) B (k_runSi (rest := []) (host := "") B (c_X8_has l dC dI cI cZ cQ cW   r30 x1 N _ res h) E0_st (fun _ _ _ => trivial) q_c_X8_has q_m_X8_113 q_t_X8_has q_n_X8 hd_X8_has ⟨rfl, rfl⟩ ⟨Nat.le_of_ble_eq_true rfl, Nat.le_of_ble_eq_true rfl⟩ hW [] rfl (by decide +kernel) rfl hl.1 rfl (Nat.le_of_ble_eq_true rfl) (tb_at tk_X8_odds 21 rfl) ⟨Nat.zero_le _, Nat.zero_le _⟩) hW hS (fun r38 u H locs h hW hS => ?_)
        refine lv_if_ne (pc := 41) (tgt := 46) hx hb (tb_at tk_X8_odds 22 rfl) (by decide) (fun cc => ?_) (fun cc => ?_)
        · have h := it_f cc h
          refine lv_iconst (pc := 46) (v := 0) hx hb (tb_at tk_X8_odds 25 rfl) (by decide) ?_
          refine lv_istore (pc := 47) (lv' := [(5, .int 0), (4, .int r30), (0, .ref z_o), (1, .int x1), (2, .int x2), (3, .int x3)]) hx hb (tb_at tk_X8_odds 26 rfl) hl (by decide) rfl (fun ls hl => ?_)
          refine lv_iconst (pc := 49) (v := 1) hx hb (tb_at tk_X8_odds 27 rfl) (by decide) ?_
          refine lv_istore (pc := 50) (lv' := [(6, .int 1), (5, .int 0), (4, .int r30), (0, .ref z_o), (1, .int x1), (2, .int x2), (3, .int x3)]) hx hb (tb_at tk_X8_odds 28 rfl) hl (by decide) rfl (fun ls hl => ?_)
          refine lv_iconst (pc := 52) (v := 0) hx hb (tb_at tk_X8_odds 29 rfl) (by decide) ?_
          refine lv_istore (pc := 53) (lv' := [(7, .int 0), (6, .int 1), (5, .int 0), (4, .int r30), (0, .ref z_o), (1, .int x1), (2, .int x2), (3, .int x3)]) hx hb (tb_at tk_X8_odds 30 rfl) hl (by decide) rfl (fun ls hl => ?_)
          have w97 : ∀ (y6_e97 : Int32) (H : Heap) (locs : List Loc) (ls : Array Slot), f_X8_odds_e97 x1 x2 x3 z_now z_ringed z_lumps z_gave z_at z_people z_st z_wantsMany z_wants z_weight r30 k N y6_e97 = some res → PD (dC, dI) A (w_X8_odds cI cZ cQ cW z_o z_weight_a z_wants_a z_wantsMany_a z_st_a z_was_a z_images_a z_isKept_a z_told_a z_text_a z_saidWeight_a z_saidNights_a z_saidWants_a z_saidMany_a z_now_a z_gave_a z_at_a z_way_a z_bestWay_a z_made_a z_people z_known z_toldMany z_trace z_texted z_cursor z_start z_token z_number z_isWrong z_items z_saidPeople z_saidLaw z_ringed z_lumps z_st z_now z_gave z_wantsMany z_wants z_weight z_at) H → va_S A s.heap H locs → lv_has ls 10 [(0, .ref z_o), (1, .int x1), (2, .int x2), (3, .int x3), (4, .int r30), (5, .int 0), (6, .int y6_e97)] → W p l e rm_X8_odds s m args below meth c H locs 0 0 Q (F0 m 97 ls []) := by
            intro y6_e97 H locs ls h hW hS hl
            unfold f_X8_odds_e97 at h
            refine lv_iconst (pc := 97) (v := 0) hx hb (tb_at tk_X8_odds 50 rfl) (by decide) ?_
            refine lv_istore (pc := 98) (lv' := [(7, .int 0), (0, .ref z_o), (1, .int x1), (2, .int x2), (3, .int x3), (4, .int r30), (5, .int 0), (6, .int y6_e97)]) hx hb (tb_at tk_X8_odds 51 rfl) hl (by decide) rfl (fun ls hl => ?_)
            have w237 : ∀ (y5_e237 : Int32) (z_ringed_e237 : Int32) (z_lumps_e237 : Int32) (z_now_e237 : Nat → Int32) (z_gave_e237 : Nat → Int32) (z_at_e237 : Nat → Int32) (H : Heap) (locs : List Loc) (ls : Array Slot), f_X8_odds_e237 x3 y6_e97 k N y5_e237 z_ringed_e237 z_lumps_e237 z_now_e237 z_gave_e237 z_at_e237 = some res → PD (dC, dI) A (w_X8_odds cI cZ cQ cW z_o z_weight_a z_wants_a z_wantsMany_a z_st_a z_was_a z_images_a z_isKept_a z_told_a z_text_a z_saidWeight_a z_saidNights_a z_saidWants_a z_saidMany_a z_now_a z_gave_a z_at_a z_way_a z_bestWay_a z_made_a z_people z_known z_toldMany z_trace z_texted z_cursor z_start z_token z_number z_isWrong z_items z_saidPeople z_saidLaw z_ringed_e237 z_lumps_e237 z_st z_now_e237 z_gave_e237 z_wantsMany z_wants z_weight z_at_e237) H → va_S A s.heap H locs → lv_has ls 10 [(3, .int x3), (5, .int y5_e237), (6, .int y6_e97)] → W p l e rm_X8_odds s m args below meth c H locs 0 0 Q (F0 m 237 ls []) := by
              intro y5_e237 z_ringed_e237 z_lumps_e237 z_now_e237 z_gave_e237 z_at_e237 H locs ls h hW hS hl
              unfold f_X8_odds_e237 at h
              refine lv_iload (pc := 237) hx hb (tb_at tk_X8_odds 119 rfl) (lv_at hl 1 rfl) ?_
              refine lv_iload (pc := 239) hx hb (tb_at tk_X8_odds 120 rfl) (lv_at hl 2 rfl) ?_
              refine lv_iload_n (pc := 241) hx hb (tb_at tk_X8_odds 121 rfl) rfl (lv_at hl 0 rfl) ?_
              refine k_call0 (pc := 242) B (k_runSi (rest := []) (host := "") B (c_X8_lowest l dC dI cI cZ cQ cW   y5_e237 y6_e97 x3 N _ res h) E0_st (fun _ _ _ => trivial) q_c_X8_lowest q_m_X8_200 q_t_X8_lowest q_n_X8 hd_X8_lowest ⟨rfl, rfl⟩ ⟨Nat.le_of_ble_eq_true rfl, Nat.le_of_ble_eq_true rfl⟩ hW [] rfl (by decide +kernel) rfl hl.1 rfl (Nat.le_of_ble_eq_true rfl) (tb_at tk_X8_odds 122 rfl) ⟨Nat.zero_le _, Nat.zero_le _⟩) hW hS (fun r242 u H locs h hW hS => ?_)
              exact hQ r242 (z_ringed_e237, z_lumps_e237, z_now_e237, z_gave_e237, z_at_e237) _ _ _ 245 rfl h hW hS (tb_at tk_X8_odds 123 rfl)
            have w100 : ∀ (n : Nat), ∀ (y5_l100 : Int32) (y7_l100 : Int32) (z_ringed_l100 : Int32) (z_lumps_l100 : Int32) (z_now_l100 : Nat → Int32) (z_gave_l100 : Nat → Int32) (z_at_l100 : Nat → Int32) (H : Heap) (locs : List Loc) (ls : Array Slot), f_X8_odds_l100 x1 x2 z_people z_st z_wantsMany z_wants z_weight r30 (fun y5_e237 z_ringed_e237 z_lumps_e237 z_now_e237 z_gave_e237 z_at_e237 => f_X8_odds_e237 x3 y6_e97 k N y5_e237 z_ringed_e237 z_lumps_e237 z_now_e237 z_gave_e237 z_at_e237) N n y5_l100 y7_l100 z_ringed_l100 z_lumps_l100 z_now_l100 z_gave_l100 z_at_l100 = some res → PD (dC, dI) A (w_X8_odds cI cZ cQ cW z_o z_weight_a z_wants_a z_wantsMany_a z_st_a z_was_a z_images_a z_isKept_a z_told_a z_text_a z_saidWeight_a z_saidNights_a z_saidWants_a z_saidMany_a z_now_a z_gave_a z_at_a z_way_a z_bestWay_a z_made_a z_people z_known z_toldMany z_trace z_texted z_cursor z_start z_token z_number z_isWrong z_items z_saidPeople z_saidLaw z_ringed_l100 z_lumps_l100 z_st z_now_l100 z_gave_l100 z_wantsMany z_wants z_weight z_at_l100) H → va_S A s.heap H locs → lv_has ls 10 [(0, .ref z_o), (1, .int x1), (2, .int x2), (3, .int x3), (4, .int r30), (5, .int y5_l100), (6, .int y6_e97), (7, .int y7_l100)] → W p l e rm_X8_odds s m args below meth c H locs 0 0 Q (F0 m 100 ls []) := by
              intro n
              induction n with
              | zero => intro y5_l100 y7_l100 z_ringed_l100 z_lumps_l100 z_now_l100 z_gave_l100 z_at_l100 H locs ls h; exact no_n h
              | succ n100 ih100 =>
                intro y5_l100 y7_l100 z_ringed_l100 z_lumps_l100 z_now_l100 z_gave_l100 z_at_l100 H locs ls h hW hS hl
                rw [f_X8_odds_l100] at h
                refine lv_iload (pc := 100) hx hb (tb_at tk_X8_odds 52 rfl) (lv_at hl 7 rfl) ?_
                refine lv_aload_n (pc := 102) hx hb (tb_at tk_X8_odds 53 rfl) rfl (lv_at hl 0 rfl) ?_
                refine k_calli (pc := 103) B (k_runVi (rest := [.int y7_l100]) (C := RX8) B (c_X8_all l dC dI cI cZ cQ cW z_o z_weight_a z_wants_a z_wantsMany_a z_st_a z_was_a z_images_a z_isKept_a z_told_a z_text_a z_saidWeight_a z_saidNights_a z_saidWants_a z_saidMany_a z_now_a z_gave_a z_at_a z_way_a z_bestWay_a z_made_a z_people z_known z_toldMany z_trace z_texted z_cursor z_start z_token z_number z_isWrong z_items z_saidPeople z_saidLaw z_ringed_l100 z_lumps_l100  N _ res h) E0_st (fun _ _ _ => trivial) q_c_X8_all q_m_X8_191 q_i_X8_all q_s_X8_all q_n_X8 hd_X8_all ⟨rfl, rfl⟩ ⟨Nat.le_of_ble_eq_true rfl, Nat.le_of_ble_eq_true rfl⟩ hW [0] rfl (by decide +kernel) (q0 := 0) (ci := 8) rfl rfl rfl hl.1 rfl (Nat.le_of_ble_eq_true rfl) (tb_at tk_X8_odds 54 rfl) ⟨Nat.zero_le _, Nat.zero_le _⟩) hW hS [0] rfl [z_o] rfl (fun _ => rfl) [some 0, none, none, none, none, none, none, none] (by decide +kernel) (fun _ => (w_X8_odds cI cZ cQ cW z_o z_weight_a z_wants_a z_wantsMany_a z_st_a z_was_a z_images_a z_isKept_a z_told_a z_text_a z_saidWeight_a z_saidNights_a z_saidWants_a z_saidMany_a z_now_a z_gave_a z_at_a z_way_a z_bestWay_a z_made_a z_people z_known z_toldMany z_trace z_texted z_cursor z_start z_token z_number z_isWrong z_items z_saidPeople z_saidLaw z_ringed_l100 z_lumps_l100 z_st z_now_l100 z_gave_l100 z_wantsMany z_wants z_weight z_at_l100)) (fun _ => rfl) (fun r103 u H locs h hW hS => ?_)
                have hW : PD (dC, dI) A (w_X8_odds cI cZ cQ cW z_o z_weight_a z_wants_a z_wantsMany_a z_st_a z_was_a z_images_a z_isKept_a z_told_a z_text_a z_saidWeight_a z_saidNights_a z_saidWants_a z_saidMany_a z_now_a z_gave_a z_at_a z_way_a z_bestWay_a z_made_a z_people z_known z_toldMany z_trace z_texted z_cursor z_start z_token z_number z_isWrong z_items z_saidPeople z_saidLaw z_ringed_l100 z_lumps_l100 z_st z_now_l100 z_gave_l100 z_wantsMany z_wants z_weight z_at_l100) H := hW
                refine lv_icmp_gt (pc := 106) (tgt := 237) hx hb (tb_at tk_X8_odds 55 rfl) (by decide) (fun cc => ?_) (fun cc => ?_)
                · have h := it_t cc h
                  exact w237 y5_l100 z_ringed_l100 z_lumps_l100 z_now_l100 z_gave_l100 z_at_l100 _ _ _ h hW hS (lv_sub hl [3, 5, 6] rfl)
                · have h := it_f cc h
                  refine lv_iload (pc := 109) hx hb (tb_at tk_X8_odds 56 rfl) (lv_at hl 7 rfl) ?_
                  refine lv_iload (pc := 111) hx hb (tb_at tk_X8_odds 57 rfl) (lv_at hl 4 rfl) ?_
                  refine lv_iconst (pc := 113) (v := (-1)) hx hb (tb_at tk_X8_odds 58 rfl) (by decide) ?_
                  refine lv_ixor (pc := 114) hx hb (tb_at tk_X8_odds 59 rfl) ?_
                  refine lv_iand (pc := 115) hx hb (tb_at tk_X8_odds 60 rfl) ?_
                  refine lv_if_ne (pc := 116) (tgt := 231) hx hb (tb_at tk_X8_odds 61 rfl) (by decide) (fun cc => ?_) (fun cc => ?_)
                  · have h := it_f cc h
                    refine lv_iinc (pc := 231) (v := y7_l100 + 1) (lv' := [(7, .int (y7_l100 + 1)), (0, .ref z_o), (1, .int x1), (2, .int x2), (3, .int x3), (4, .int r30), (5, .int y5_l100), (6, .int y6_e97)]) hx hb (tb_at tk_X8_odds 117 rfl) hl (k := 7) rfl rfl (by decide) rfl (fun ls hl => ?_)
                    refine lv_goto (pc := 234) (tgt := 100) hx hb (tb_at tk_X8_odds 118 rfl) (by decide) ?_
                    exact ih100 y5_l100 (y7_l100 + 1) z_ringed_l100 z_lumps_l100 z_now_l100 z_gave_l100 z_at_l100 _ _ _ h hW hS (lv_sub hl [1, 2, 3, 4, 5, 6, 7, 0] rfl)
                  · have h := it_t cc h
                    refine lv_iload (pc := 119) hx hb (tb_at tk_X8_odds 62 rfl) (lv_at hl 7 rfl) ?_
                    refine lv_iload_n (pc := 121) hx hb (tb_at tk_X8_odds 63 rfl) rfl (lv_at hl 1 rfl) ?_
                    refine k_call0 (pc := 122) B (k_runSi (rest := []) (host := "") B (c_X8_has l dC dI cI cZ cQ cW   y7_l100 x1 N _ res h) E0_st (fun _ _ _ => trivial) q_c_X8_has q_m_X8_113 q_t_X8_has q_n_X8 hd_X8_has ⟨rfl, rfl⟩ ⟨Nat.le_of_ble_eq_true rfl, Nat.le_of_ble_eq_true rfl⟩ hW [] rfl (by decide +kernel) rfl hl.1 rfl (Nat.le_of_ble_eq_true rfl) (tb_at tk_X8_odds 64 rfl) ⟨Nat.zero_le _, Nat.zero_le _⟩) hW hS (fun r122 u H locs h hW hS => ?_)
                    refine lv_if_eq (pc := 125) (tgt := 231) hx hb (tb_at tk_X8_odds 65 rfl) (by decide) (fun cc => ?_) (fun cc => ?_)
                    · have h := it_t cc h
                      refine lv_iinc (pc := 231) (v := y7_l100 + 1) (lv' := [(7, .int (y7_l100 + 1)), (0, .ref z_o), (1, .int x1), (2, .int x2), (3, .int x3), (4, .int r30), (5, .int y5_l100), (6, .int y6_e97)]) hx hb (tb_at tk_X8_odds 117 rfl) hl (k := 7) rfl rfl (by decide) rfl (fun ls hl => ?_)
                      refine lv_goto (pc := 234) (tgt := 100) hx hb (tb_at tk_X8_odds 118 rfl) (by decide) ?_
                      exact ih100 y5_l100 (y7_l100 + 1) z_ringed_l100 z_lumps_l100 z_now_l100 z_gave_l100 z_at_l100 _ _ _ h hW hS (lv_sub hl [1, 2, 3, 4, 5, 6, 7, 0] rfl)
                    · have h := it_f cc h
                      refine lv_iconst (pc := 128) (v := 1) hx hb (tb_at tk_X8_odds 66 rfl) (by decide) ?_
                      refine lv_istore (pc := 129) (lv' := [(8, .int 1), (0, .ref z_o), (1, .int x1), (2, .int x2), (3, .int x3), (4, .int r30), (5, .int y5_l100), (6, .int y6_e97), (7, .int y7_l100)]) hx hb (tb_at tk_X8_odds 67 rfl) hl (by decide) rfl (fun ls hl => ?_)
                      refine lv_iconst (pc := 131) (v := 0) hx hb (tb_at tk_X8_odds 68 rfl) (by decide) ?_
                      refine lv_istore (pc := 132) (lv' := [(9, .int 0), (8, .int 1), (0, .ref z_o), (1, .int x1), (2, .int x2), (3, .int x3), (4, .int r30), (5, .int y5_l100), (6, .int y6_e97), (7, .int y7_l100)]) hx hb (tb_at tk_X8_odds 69 rfl) hl (by decide) rfl (fun ls hl => ?_)
                      have w192 : ∀ (y8_e192 : Int32) (H : Heap) (locs : List Loc) (ls : Array Slot), f_X8_odds_e192 x1 z_people z_st z_wantsMany z_wants z_weight y5_l100 y7_l100 z_now_l100 z_gave_l100 z_at_l100 (f_X8_odds_l100 x1 x2 z_people z_st z_wantsMany z_wants z_weight r30 (fun y5_e237 z_ringed_e237 z_lumps_e237 z_now_e237 z_gave_e237 z_at_e237 => f_X8_odds_e237 x3 y6_e97 k N y5_e237 z_ringed_e237 z_lumps_e237 z_now_e237 z_gave_e237 z_at_e237) N n100) N y8_e192 = some res → PD (dC, dI) A (w_X8_odds cI cZ cQ cW z_o z_weight_a z_wants_a z_wantsMany_a z_st_a z_was_a z_images_a z_isKept_a z_told_a z_text_a z_saidWeight_a z_saidNights_a z_saidWants_a z_saidMany_a z_now_a z_gave_a z_at_a z_way_a z_bestWay_a z_made_a z_people z_known z_toldMany z_trace z_texted z_cursor z_start z_token z_number z_isWrong z_items z_saidPeople z_saidLaw z_ringed_l100 z_lumps_l100 z_st z_now_l100 z_gave_l100 z_wantsMany z_wants z_weight z_at_l100) H → va_S A s.heap H locs → lv_has ls 10 [(0, .ref z_o), (1, .int x1), (2, .int x2), (3, .int x3), (4, .int r30), (5, .int y5_l100), (6, .int y6_e97), (7, .int y7_l100), (8, .int y8_e192)] → W p l e rm_X8_odds s m args below meth c H locs 0 0 Q (F0 m 192 ls []) := by
                        intro y8_e192 H locs ls h hW hS hl
                        unfold f_X8_odds_e192 at h
                        refine lv_aload_n (pc := 192) hx hb (tb_at tk_X8_odds 97 rfl) rfl (lv_at hl 0 rfl) ?_
                        refine k_callv (pc := 193) B (k_runVv (rest := []) (C := RX8) B (c_X8_asItIs l dC dI cI cZ cQ cW z_o z_weight_a z_wants_a z_wantsMany_a z_st_a z_was_a z_images_a z_isKept_a z_told_a z_text_a z_saidWeight_a z_saidNights_a z_saidWants_a z_saidMany_a z_now_a z_gave_a z_at_a z_way_a z_bestWay_a z_made_a z_people z_known z_toldMany z_trace z_texted z_cursor z_start z_token z_number z_isWrong z_items z_saidPeople z_saidLaw z_ringed_l100 z_lumps_l100 z_st z_now_l100  N _ res h) E0_st (fun _ _ _ => trivial) q_c_X8_asItIs q_m_X8_181 q_i_X8_asItIs q_s_X8_asItIs q_n_X8 hd_X8_asItIs ⟨rfl, rfl⟩ ⟨Nat.le_of_ble_eq_true rfl, Nat.le_of_ble_eq_true rfl⟩ hW [0, 1, 2] rfl (by decide +kernel) (q0 := 0) (ci := 8) rfl rfl rfl hl.1 rfl (Nat.le_of_ble_eq_true rfl) (tb_at tk_X8_odds 98 rfl) ⟨Nat.zero_le _, Nat.zero_le _⟩) hW hS [0, 1, 2] rfl [z_o, z_st_a, z_now_a] rfl (fun _ => rfl) [some 0, some 1, some 2, none, none, none, none, none] (by decide +kernel) (fun u => (w_X8_odds cI cZ cQ cW z_o z_weight_a z_wants_a z_wantsMany_a z_st_a z_was_a z_images_a z_isKept_a z_told_a z_text_a z_saidWeight_a z_saidNights_a z_saidWants_a z_saidMany_a z_now_a z_gave_a z_at_a z_way_a z_bestWay_a z_made_a z_people z_known z_toldMany z_trace z_texted z_cursor z_start z_token z_number z_isWrong z_items z_saidPeople z_saidLaw z_ringed_l100 z_lumps_l100 z_st u z_gave_l100 z_wantsMany z_wants z_weight z_at_l100)) (fun _ => rfl) (fun u H locs h hW hS => ?_)
                        obtain ⟨z_now_193, rfl⟩ : ∃ z9, z9 = u := ⟨_, rfl⟩
                        have hW : PD (dC, dI) A (w_X8_odds cI cZ cQ cW z_o z_weight_a z_wants_a z_wantsMany_a z_st_a z_was_a z_images_a z_isKept_a z_told_a z_text_a z_saidWeight_a z_saidNights_a z_saidWants_a z_saidMany_a z_now_a z_gave_a z_at_a z_way_a z_bestWay_a z_made_a z_people z_known z_toldMany z_trace z_texted z_cursor z_start z_token z_number z_isWrong z_items z_saidPeople z_saidLaw z_ringed_l100 z_lumps_l100 z_st z_now_193 z_gave_l100 z_wantsMany z_wants z_weight z_at_l100) H := hW
                        refine lv_aload_n (pc := 196) hx hb (tb_at tk_X8_odds 99 rfl) rfl (lv_at hl 0 rfl) ?_
                        refine lv_iload (pc := 197) hx hb (tb_at tk_X8_odds 100 rfl) (lv_at hl 7 rfl) ?_
                        refine lv_aload_n (pc := 199) hx hb (tb_at tk_X8_odds 101 rfl) rfl (lv_at hl 0 rfl) ?_
                        refine k_get (pc := 200) (v := .ref z_st_a) (T := TX8) B inG8 hW 0 rfl rfl 4 (by decide) q_f_X8_19 rfl rfl (tb_at tk_X8_odds 102 rfl) ?_
                        refine lv_bipush (pc := 203) (v := 24) hx hb (tb_at tk_X8_odds 103 rfl) (by decide) ?_
                        have ii := ivi_in (ck_l h)
                        have h := ck_r h
                        refine k_iald (pc := 205) B hW 1 0 rfl rfl ii (tb_at tk_X8_odds 104 rfl) ?_
                        refine k_callv (pc := 206) B (k_runVv (rest := []) (C := RX8) B (c_X8_goesBy l dC dI cI cZ cQ cW z_o z_weight_a z_wants_a z_wantsMany_a z_st_a z_was_a z_images_a z_isKept_a z_told_a z_text_a z_saidWeight_a z_saidNights_a z_saidWants_a z_saidMany_a z_now_a z_gave_a z_at_a z_way_a z_bestWay_a z_made_a z_people z_known z_toldMany z_trace z_texted z_cursor z_start z_token z_number z_isWrong z_items z_saidPeople z_saidLaw z_ringed_l100 z_lumps_l100 z_now_193 z_gave_l100 z_wantsMany z_wants z_weight z_at_l100 y7_l100 (z_st ((24 : Int32)).toNatClampNeg) N _ res h) E0_st (fun _ _ _ => trivial) q_c_X8_goesBy q_m_X8_184 q_i_X8_goesBy q_s_X8_goesBy q_n_X8 hd_X8_goesBy ⟨rfl, rfl⟩ ⟨Nat.le_of_ble_eq_true rfl, Nat.le_of_ble_eq_true rfl⟩ hW [0, 2, 3, 4, 5, 6, 7] rfl (by decide +kernel) (q0 := 0) (ci := 8) rfl rfl rfl hl.1 rfl (Nat.le_of_ble_eq_true rfl) (tb_at tk_X8_odds 105 rfl) ⟨Nat.zero_le _, Nat.zero_le _⟩) hW hS [0, 2, 3, 4, 5, 6, 7] rfl [z_o, z_now_a, z_gave_a, z_wantsMany_a, z_wants_a, z_weight_a, z_at_a] rfl (fun _ => rfl) [some 0, none, some 1, some 2, some 3, some 4, some 5, some 6] (by decide +kernel) (fun u => (w_X8_odds cI cZ cQ cW z_o z_weight_a z_wants_a z_wantsMany_a z_st_a z_was_a z_images_a z_isKept_a z_told_a z_text_a z_saidWeight_a z_saidNights_a z_saidWants_a z_saidMany_a z_now_a z_gave_a z_at_a z_way_a z_bestWay_a z_made_a z_people z_known z_toldMany z_trace z_texted z_cursor z_start z_token z_number z_isWrong z_items z_saidPeople z_saidLaw u.1 u.2.1 z_st u.2.2.1 u.2.2.2.1 z_wantsMany z_wants z_weight u.2.2.2.2)) (fun _ => rfl) (fun u H locs h hW hS => ?_)
                        obtain ⟨z_ringed_206, z_lumps_206, z_now_206, z_gave_206, z_at_206⟩ := u
                        dsimp only at h
                        have hW : PD (dC, dI) A (w_X8_odds cI cZ cQ cW z_o z_weight_a z_wants_a z_wantsMany_a z_st_a z_was_a z_images_a z_isKept_a z_told_a z_text_a z_saidWeight_a z_saidNights_a z_saidWants_a z_saidMany_a z_now_a z_gave_a z_at_a z_way_a z_bestWay_a z_made_a z_people z_known z_toldMany z_trace z_texted z_cursor z_start z_token z_number z_isWrong z_items z_saidPeople z_saidLaw z_ringed_206 z_lumps_206 z_st z_now_206 z_gave_206 z_wantsMany z_wants z_weight z_at_206) H := hW
                        refine lv_iload (pc := 209) hx hb (tb_at tk_X8_odds 106 rfl) (lv_at hl 5 rfl) ?_
                        refine lv_aload_n (pc := 211) hx hb (tb_at tk_X8_odds 107 rfl) rfl (lv_at hl 0 rfl) ?_
                        refine k_get (pc := 212) (v := .int z_ringed_206) (T := TX8) B inG8 hW 0 rfl rfl 29 (by decide) q_f_X8_155 rfl rfl (tb_at tk_X8_odds 108 rfl) ?_
                        refine lv_iload_n (pc := 215) hx hb (tb_at tk_X8_odds 109 rfl) rfl (lv_at hl 1 rfl) ?_
                        refine k_call0 (pc := 216) B (k_runSi (rest := [.int y5_l100]) (host := "") B (c_X8_has l dC dI cI cZ cQ cW   z_ringed_206 x1 N _ res h) E0_st (fun _ _ _ => trivial) q_c_X8_has q_m_X8_113 q_t_X8_has q_n_X8 hd_X8_has ⟨rfl, rfl⟩ ⟨Nat.le_of_ble_eq_true rfl, Nat.le_of_ble_eq_true rfl⟩ hW [] rfl (by decide +kernel) rfl hl.1 rfl (Nat.le_of_ble_eq_true rfl) (tb_at tk_X8_odds 110 rfl) ⟨Nat.zero_le _, Nat.zero_le _⟩) hW hS (fun r216 u H locs h hW hS => ?_)
                        have w228 : ∀ (s1_j228 : Int32) (H : Heap) (locs : List Loc) (ls : Array Slot), f_X8_odds_j228 y5_l100 y7_l100 z_ringed_206 z_lumps_206 z_now_206 z_gave_206 z_at_206 (f_X8_odds_l100 x1 x2 z_people z_st z_wantsMany z_wants z_weight r30 (fun y5_e237 z_ringed_e237 z_lumps_e237 z_now_e237 z_gave_e237 z_at_e237 => f_X8_odds_e237 x3 y6_e97 k N y5_e237 z_ringed_e237 z_lumps_e237 z_now_e237 z_gave_e237 z_at_e237) N n100) s1_j228 = some res → PD (dC, dI) A (w_X8_odds cI cZ cQ cW z_o z_weight_a z_wants_a z_wantsMany_a z_st_a z_was_a z_images_a z_isKept_a z_told_a z_text_a z_saidWeight_a z_saidNights_a z_saidWants_a z_saidMany_a z_now_a z_gave_a z_at_a z_way_a z_bestWay_a z_made_a z_people z_known z_toldMany z_trace z_texted z_cursor z_start z_token z_number z_isWrong z_items z_saidPeople z_saidLaw z_ringed_206 z_lumps_206 z_st z_now_206 z_gave_206 z_wantsMany z_wants z_weight z_at_206) H → va_S A s.heap H locs → lv_has ls 10 [(0, .ref z_o), (1, .int x1), (2, .int x2), (3, .int x3), (4, .int r30), (6, .int y6_e97), (7, .int y7_l100)] → W p l e rm_X8_odds s m args below meth c H locs 0 0 Q (F0 m 228 ls [.int s1_j228, .int y5_l100]) := by
                          intro s1_j228 H locs ls h hW hS hl
                          unfold f_X8_odds_j228 at h
                          refine lv_iadd (pc := 228) hx hb (tb_at tk_X8_odds 115 rfl) ?_
                          refine lv_istore (pc := 229) (lv' := [(5, .int (y5_l100 + s1_j228)), (0, .ref z_o), (1, .int x1), (2, .int x2), (3, .int x3), (4, .int r30), (6, .int y6_e97), (7, .int y7_l100)]) hx hb (tb_at tk_X8_odds 116 rfl) hl (by decide) rfl (fun ls hl => ?_)
                          refine lv_iinc (pc := 231) (v := y7_l100 + 1) (lv' := [(7, .int (y7_l100 + 1)), (5, .int (y5_l100 + s1_j228)), (0, .ref z_o), (1, .int x1), (2, .int x2), (3, .int x3), (4, .int r30), (6, .int y6_e97)]) hx hb (tb_at tk_X8_odds 117 rfl) hl (k := 7) rfl rfl (by decide) rfl (fun ls hl => ?_)
                          refine lv_goto (pc := 234) (tgt := 100) hx hb (tb_at tk_X8_odds 118 rfl) (by decide) ?_
                          exact ih100 (y5_l100 + s1_j228) (y7_l100 + 1) z_ringed_206 z_lumps_206 z_now_206 z_gave_206 z_at_206 _ _ _ h hW hS (lv_sub hl [2, 3, 4, 5, 6, 1, 7, 0] rfl)
                        refine lv_if_eq (pc := 219) (tgt := 227) hx hb (tb_at tk_X8_odds 111 rfl) (by decide) (fun cc => ?_) (fun cc => ?_)
                        · have h := it_t cc h
                          refine lv_iconst (pc := 227) (v := 0) hx hb (tb_at tk_X8_odds 114 rfl) (by decide) ?_
                          exact w228 0 _ _ _ h hW hS (lv_sub hl [0, 1, 2, 3, 4, 6, 7] rfl)
                        · have h := it_f cc h
                          refine lv_iload (pc := 222) hx hb (tb_at tk_X8_odds 112 rfl) (lv_at hl 8 rfl) ?_
                          refine lv_goto (pc := 224) (tgt := 228) hx hb (tb_at tk_X8_odds 113 rfl) (by decide) ?_
                          exact w228 y8_e192 _ _ _ h hW hS (lv_sub hl [0, 1, 2, 3, 4, 6, 7] rfl)
                      have w134 : ∀ (n : Nat), ∀ (y8_l134 : Int32) (y9_l134 : Int32) (H : Heap) (locs : List Loc) (ls : Array Slot), f_X8_odds_l134 x1 x2 z_people r30 y7_l100 (fun y8_e192 => f_X8_odds_e192 x1 z_people z_st z_wantsMany z_wants z_weight y5_l100 y7_l100 z_now_l100 z_gave_l100 z_at_l100 (f_X8_odds_l100 x1 x2 z_people z_st z_wantsMany z_wants z_weight r30 (fun y5_e237 z_ringed_e237 z_lumps_e237 z_now_e237 z_gave_e237 z_at_e237 => f_X8_odds_e237 x3 y6_e97 k N y5_e237 z_ringed_e237 z_lumps_e237 z_now_e237 z_gave_e237 z_at_e237) N n100) N y8_e192) N n y8_l134 y9_l134 = some res → PD (dC, dI) A (w_X8_odds cI cZ cQ cW z_o z_weight_a z_wants_a z_wantsMany_a z_st_a z_was_a z_images_a z_isKept_a z_told_a z_text_a z_saidWeight_a z_saidNights_a z_saidWants_a z_saidMany_a z_now_a z_gave_a z_at_a z_way_a z_bestWay_a z_made_a z_people z_known z_toldMany z_trace z_texted z_cursor z_start z_token z_number z_isWrong z_items z_saidPeople z_saidLaw z_ringed_l100 z_lumps_l100 z_st z_now_l100 z_gave_l100 z_wantsMany z_wants z_weight z_at_l100) H → va_S A s.heap H locs → lv_has ls 10 [(0, .ref z_o), (1, .int x1), (2, .int x2), (3, .int x3), (4, .int r30), (5, .int y5_l100), (6, .int y6_e97), (7, .int y7_l100), (8, .int y8_l134), (9, .int y9_l134)] → W p l e rm_X8_odds s m args below meth c H locs 0 0 Q (F0 m 134 ls []) := by
                        intro n
                        induction n with
                        | zero => intro y8_l134 y9_l134 H locs ls h; exact no_n h
                        | succ n134 ih134 =>
                          intro y8_l134 y9_l134 H locs ls h hW hS hl
                          rw [f_X8_odds_l134] at h
                          refine lv_iload (pc := 134) hx hb (tb_at tk_X8_odds 70 rfl) (lv_at hl 9 rfl) ?_
                          refine lv_aload_n (pc := 136) hx hb (tb_at tk_X8_odds 71 rfl) rfl (lv_at hl 0 rfl) ?_
                          refine k_get (pc := 137) (v := .int z_people) (T := TX8) B inG8 hW 0 rfl rfl 0 (by decide) q_f_X8_68 rfl rfl (tb_at tk_X8_odds 72 rfl) ?_
                          refine lv_icmp_ge (pc := 140) (tgt := 192) hx hb (tb_at tk_X8_odds 73 rfl) (by decide) (fun cc => ?_) (fun cc => ?_)
                          · have h := it_t cc h
                            exact w192 y8_l134 _ _ _ h hW hS (lv_sub hl [0, 1, 2, 3, 4, 5, 6, 7, 8] rfl)
                          · have h := it_f cc h
                            refine lv_iload (pc := 143) hx hb (tb_at tk_X8_odds 74 rfl) (lv_at hl 8 rfl) ?_
                            refine lv_iload (pc := 145) hx hb (tb_at tk_X8_odds 75 rfl) (lv_at hl 9 rfl) ?_
                            refine lv_iload_n (pc := 147) hx hb (tb_at tk_X8_odds 76 rfl) rfl (lv_at hl 1 rfl) ?_
                            have w183 : ∀ (s1_j183 : Int32) (H : Heap) (locs : List Loc) (ls : Array Slot), f_X8_odds_j183 y8_l134 y9_l134 (f_X8_odds_l134 x1 x2 z_people r30 y7_l100 (fun y8_e192 => f_X8_odds_e192 x1 z_people z_st z_wantsMany z_wants z_weight y5_l100 y7_l100 z_now_l100 z_gave_l100 z_at_l100 (f_X8_odds_l100 x1 x2 z_people z_st z_wantsMany z_wants z_weight r30 (fun y5_e237 z_ringed_e237 z_lumps_e237 z_now_e237 z_gave_e237 z_at_e237 => f_X8_odds_e237 x3 y6_e97 k N y5_e237 z_ringed_e237 z_lumps_e237 z_now_e237 z_gave_e237 z_at_e237) N n100) N y8_e192) N n134) s1_j183 = some res → PD (dC, dI) A (w_X8_odds cI cZ cQ cW z_o z_weight_a z_wants_a z_wantsMany_a z_st_a z_was_a z_images_a z_isKept_a z_told_a z_text_a z_saidWeight_a z_saidNights_a z_saidWants_a z_saidMany_a z_now_a z_gave_a z_at_a z_way_a z_bestWay_a z_made_a z_people z_known z_toldMany z_trace z_texted z_cursor z_start z_token z_number z_isWrong z_items z_saidPeople z_saidLaw z_ringed_l100 z_lumps_l100 z_st z_now_l100 z_gave_l100 z_wantsMany z_wants z_weight z_at_l100) H → va_S A s.heap H locs → lv_has ls 10 [(0, .ref z_o), (1, .int x1), (2, .int x2), (3, .int x3), (4, .int r30), (5, .int y5_l100), (6, .int y6_e97), (7, .int y7_l100), (9, .int y9_l134)] → W p l e rm_X8_odds s m args below meth c H locs 0 0 Q (F0 m 183 ls [.int s1_j183, .int y8_l134]) := by
                              intro s1_j183 H locs ls h hW hS hl
                              unfold f_X8_odds_j183 at h
                              refine lv_imul (pc := 183) hx hb (tb_at tk_X8_odds 93 rfl) ?_
                              refine lv_istore (pc := 184) (lv' := [(8, .int (y8_l134 * s1_j183)), (0, .ref z_o), (1, .int x1), (2, .int x2), (3, .int x3), (4, .int r30), (5, .int y5_l100), (6, .int y6_e97), (7, .int y7_l100), (9, .int y9_l134)]) hx hb (tb_at tk_X8_odds 94 rfl) hl (by decide) rfl (fun ls hl => ?_)
                              refine lv_iinc (pc := 186) (v := y9_l134 + 1) (lv' := [(9, .int (y9_l134 + 1)), (8, .int (y8_l134 * s1_j183)), (0, .ref z_o), (1, .int x1), (2, .int x2), (3, .int x3), (4, .int r30), (5, .int y5_l100), (6, .int y6_e97), (7, .int y7_l100)]) hx hb (tb_at tk_X8_odds 95 rfl) hl (k := 9) rfl rfl (by decide) rfl (fun ls hl => ?_)
                              refine lv_goto (pc := 189) (tgt := 134) hx hb (tb_at tk_X8_odds 96 rfl) (by decide) ?_
                              exact ih134 (y8_l134 * s1_j183) (y9_l134 + 1) _ _ _ h hW hS (lv_sub hl [2, 3, 4, 5, 6, 7, 8, 9, 1, 0] rfl)
                            have w161 : ∀ (H : Heap) (locs : List Loc) (ls : Array Slot), f_X8_odds_j161 y8_l134 y9_l134 (f_X8_odds_l134 x1 x2 z_people r30 y7_l100 (fun y8_e192 => f_X8_odds_e192 x1 z_people z_st z_wantsMany z_wants z_weight y5_l100 y7_l100 z_now_l100 z_gave_l100 z_at_l100 (f_X8_odds_l100 x1 x2 z_people z_st z_wantsMany z_wants z_weight r30 (fun y5_e237 z_ringed_e237 z_lumps_e237 z_now_e237 z_gave_e237 z_at_e237 => f_X8_odds_e237 x3 y6_e97 k N y5_e237 z_ringed_e237 z_lumps_e237 z_now_e237 z_gave_e237 z_at_e237) N n100) N y8_e192) N n134) = some res → PD (dC, dI) A (w_X8_odds cI cZ cQ cW z_o z_weight_a z_wants_a z_wantsMany_a z_st_a z_was_a z_images_a z_isKept_a z_told_a z_text_a z_saidWeight_a z_saidNights_a z_saidWants_a z_saidMany_a z_now_a z_gave_a z_at_a z_way_a z_bestWay_a z_made_a z_people z_known z_toldMany z_trace z_texted z_cursor z_start z_token z_number z_isWrong z_items z_saidPeople z_saidLaw z_ringed_l100 z_lumps_l100 z_st z_now_l100 z_gave_l100 z_wantsMany z_wants z_weight z_at_l100) H → va_S A s.heap H locs → lv_has ls 10 [(0, .ref z_o), (1, .int x1), (2, .int x2), (3, .int x3), (4, .int r30), (5, .int y5_l100), (6, .int y6_e97), (7, .int y7_l100), (9, .int y9_l134)] → W p l e rm_X8_odds s m args below meth c H locs 0 0 Q (F0 m 161 ls [.int y8_l134]) := by
                              intro H locs ls h hW hS hl
                              unfold f_X8_odds_j161 at h
                              refine lv_iconst (pc := 161) (v := 1) hx hb (tb_at tk_X8_odds 82 rfl) (by decide) ?_
                              refine lv_goto (pc := 162) (tgt := 183) hx hb (tb_at tk_X8_odds 83 rfl) (by decide) ?_
                              exact w183 1 _ _ _ h hW hS (lv_sub hl [0, 1, 2, 3, 4, 5, 6, 7, 8] rfl)
                            refine lv_icmp_eq (pc := 148) (tgt := 161) hx hb (tb_at tk_X8_odds 77 rfl) (by decide) (fun cc => ?_) (fun cc => ?_)
                            · have h := it_t cc h
                              exact w161  _ _ _ h hW hS (lv_sub hl [0, 1, 2, 3, 4, 5, 6, 7, 9] rfl)
                            · have h := it_f cc h
                              refine lv_iload (pc := 151) hx hb (tb_at tk_X8_odds 78 rfl) (lv_at hl 4 rfl) ?_
                              refine lv_iload (pc := 153) hx hb (tb_at tk_X8_odds 79 rfl) (lv_at hl 9 rfl) ?_
                              refine k_call0 (pc := 155) B (k_runSi (rest := [.int y8_l134]) (host := "") B (c_X8_has l dC dI cI cZ cQ cW   r30 y9_l134 N _ res h) E0_st (fun _ _ _ => trivial) q_c_X8_has q_m_X8_113 q_t_X8_has q_n_X8 hd_X8_has ⟨rfl, rfl⟩ ⟨Nat.le_of_ble_eq_true rfl, Nat.le_of_ble_eq_true rfl⟩ hW [] rfl (by decide +kernel) rfl hl.1 rfl (Nat.le_of_ble_eq_true rfl) (tb_at tk_X8_odds 80 rfl) ⟨Nat.zero_le _, Nat.zero_le _⟩) hW hS (fun r155 u H locs h hW hS => ?_)
                              refine lv_if_ne (pc := 158) (tgt := 165) hx hb (tb_at tk_X8_odds 81 rfl) (by decide) (fun cc => ?_) (fun cc => ?_)
                              · have h := it_f cc h
                                refine lv_iload (pc := 165) hx hb (tb_at tk_X8_odds 84 rfl) (lv_at hl 7 rfl) ?_
                                refine lv_iload (pc := 167) hx hb (tb_at tk_X8_odds 85 rfl) (lv_at hl 9 rfl) ?_
                                refine k_call0 (pc := 169) B (k_runSi (rest := [.int y8_l134]) (host := "") B (c_X8_has l dC dI cI cZ cQ cW   y7_l100 y9_l134 N _ res h) E0_st (fun _ _ _ => trivial) q_c_X8_has q_m_X8_113 q_t_X8_has q_n_X8 hd_X8_has ⟨rfl, rfl⟩ ⟨Nat.le_of_ble_eq_true rfl, Nat.le_of_ble_eq_true rfl⟩ hW [] rfl (by decide +kernel) rfl hl.1 rfl (Nat.le_of_ble_eq_true rfl) (tb_at tk_X8_odds 86 rfl) ⟨Nat.zero_le _, Nat.zero_le _⟩) hW hS (fun r169 u H locs h hW hS => ?_)
                                refine lv_if_eq (pc := 172) (tgt := 179) hx hb (tb_at tk_X8_odds 87 rfl) (by decide) (fun cc => ?_) (fun cc => ?_)
                                · have h := it_t cc h
                                  refine lv_bipush (pc := 179) (v := 10) hx hb (tb_at tk_X8_odds 90 rfl) (by decide) ?_
                                  refine lv_iload_n (pc := 181) hx hb (tb_at tk_X8_odds 91 rfl) rfl (lv_at hl 2 rfl) ?_
                                  refine lv_isub (pc := 182) hx hb (tb_at tk_X8_odds 92 rfl) ?_
                                  exact w183 ((10 : Int32) - x2) _ _ _ h hW hS (lv_sub hl [0, 1, 2, 3, 4, 5, 6, 7, 9] rfl)
                                · have h := it_f cc h
                                  refine lv_iload_n (pc := 175) hx hb (tb_at tk_X8_odds 88 rfl) rfl (lv_at hl 2 rfl) ?_
                                  refine lv_goto (pc := 176) (tgt := 183) hx hb (tb_at tk_X8_odds 89 rfl) (by decide) ?_
                                  exact w183 x2 _ _ _ h hW hS (lv_sub hl [0, 1, 2, 3, 4, 5, 6, 7, 9] rfl)
                              · have h := it_t cc h
                                exact w161  _ _ _ h hW hS (lv_sub hl [0, 1, 2, 3, 4, 5, 6, 7, 9] rfl)
                      exact w134 N 1 0 _ _ _ h hW hS (lv_sub hl [2, 3, 4, 5, 6, 7, 8, 9, 1, 0] rfl)
            exact w100 N 0 0 z_ringed z_lumps z_now z_gave z_at _ _ _ h hW hS (lv_sub hl [1, 2, 3, 4, 5, 6, 7, 0] rfl)
          have w55 : ∀ (n : Nat), ∀ (y6_l55 : Int32) (y7_l55 : Int32) (H : Heap) (locs : List Loc) (ls : Array Slot), f_X8_odds_l55 x1 z_people r30 (fun y6_e97 => f_X8_odds_e97 x1 x2 x3 z_now z_ringed z_lumps z_gave z_at z_people z_st z_wantsMany z_wants z_weight r30 k N y6_e97) N n y6_l55 y7_l55 = some res → PD (dC, dI) A (w_X8_odds cI cZ cQ cW z_o z_weight_a z_wants_a z_wantsMany_a z_st_a z_was_a z_images_a z_isKept_a z_told_a z_text_a z_saidWeight_a z_saidNights_a z_saidWants_a z_saidMany_a z_now_a z_gave_a z_at_a z_way_a z_bestWay_a z_made_a z_people z_known z_toldMany z_trace z_texted z_cursor z_start z_token z_number z_isWrong z_items z_saidPeople z_saidLaw z_ringed z_lumps z_st z_now z_gave z_wantsMany z_wants z_weight z_at) H → va_S A s.heap H locs → lv_has ls 10 [(0, .ref z_o), (1, .int x1), (2, .int x2), (3, .int x3), (4, .int r30), (5, .int 0), (6, .int y6_l55), (7, .int y7_l55)] → W p l e rm_X8_odds s m args below meth c H locs 0 0 Q (F0 m 55 ls []) := by
            intro n
            induction n with
            | zero => intro y6_l55 y7_l55 H locs ls h; exact no_n h
            | succ n55 ih55 =>
              intro y6_l55 y7_l55 H locs ls h hW hS hl
              rw [f_X8_odds_l55] at h
              refine lv_iload (pc := 55) hx hb (tb_at tk_X8_odds 31 rfl) (lv_at hl 7 rfl) ?_
              refine lv_aload_n (pc := 57) hx hb (tb_at tk_X8_odds 32 rfl) rfl (lv_at hl 0 rfl) ?_
              refine k_get (pc := 58) (v := .int z_people) (T := TX8) B inG8 hW 0 rfl rfl 0 (by decide) q_f_X8_68 rfl rfl (tb_at tk_X8_odds 33 rfl) ?_
              refine lv_icmp_ge (pc := 61) (tgt := 97) hx hb (tb_at tk_X8_odds 34 rfl) (by decide) (fun cc => ?_) (fun cc => ?_)
              · have h := it_t cc h
                exact w97 y6_l55 _ _ _ h hW hS (lv_sub hl [0, 1, 2, 3, 4, 5, 6] rfl)
              · have h := it_f cc h
                refine lv_iload (pc := 64) hx hb (tb_at tk_X8_odds 35 rfl) (lv_at hl 6 rfl) ?_
                refine lv_iload (pc := 66) hx hb (tb_at tk_X8_odds 36 rfl) (lv_at hl 7 rfl) ?_
                refine lv_iload_n (pc := 68) hx hb (tb_at tk_X8_odds 37 rfl) rfl (lv_at hl 1 rfl) ?_
                have w88 : ∀ (s1_j88 : Int32) (H : Heap) (locs : List Loc) (ls : Array Slot), f_X8_odds_j88 y6_l55 y7_l55 (f_X8_odds_l55 x1 z_people r30 (fun y6_e97 => f_X8_odds_e97 x1 x2 x3 z_now z_ringed z_lumps z_gave z_at z_people z_st z_wantsMany z_wants z_weight r30 k N y6_e97) N n55) s1_j88 = some res → PD (dC, dI) A (w_X8_odds cI cZ cQ cW z_o z_weight_a z_wants_a z_wantsMany_a z_st_a z_was_a z_images_a z_isKept_a z_told_a z_text_a z_saidWeight_a z_saidNights_a z_saidWants_a z_saidMany_a z_now_a z_gave_a z_at_a z_way_a z_bestWay_a z_made_a z_people z_known z_toldMany z_trace z_texted z_cursor z_start z_token z_number z_isWrong z_items z_saidPeople z_saidLaw z_ringed z_lumps z_st z_now z_gave z_wantsMany z_wants z_weight z_at) H → va_S A s.heap H locs → lv_has ls 10 [(0, .ref z_o), (1, .int x1), (2, .int x2), (3, .int x3), (4, .int r30), (5, .int 0), (7, .int y7_l55)] → W p l e rm_X8_odds s m args below meth c H locs 0 0 Q (F0 m 88 ls [.int s1_j88, .int y6_l55]) := by
                  intro s1_j88 H locs ls h hW hS hl
                  unfold f_X8_odds_j88 at h
                  refine lv_imul (pc := 88) hx hb (tb_at tk_X8_odds 46 rfl) ?_
                  refine lv_istore (pc := 89) (lv' := [(6, .int (y6_l55 * s1_j88)), (0, .ref z_o), (1, .int x1), (2, .int x2), (3, .int x3), (4, .int r30), (5, .int 0), (7, .int y7_l55)]) hx hb (tb_at tk_X8_odds 47 rfl) hl (by decide) rfl (fun ls hl => ?_)
                  refine lv_iinc (pc := 91) (v := y7_l55 + 1) (lv' := [(7, .int (y7_l55 + 1)), (6, .int (y6_l55 * s1_j88)), (0, .ref z_o), (1, .int x1), (2, .int x2), (3, .int x3), (4, .int r30), (5, .int 0)]) hx hb (tb_at tk_X8_odds 48 rfl) hl (k := 7) rfl rfl (by decide) rfl (fun ls hl => ?_)
                  refine lv_goto (pc := 94) (tgt := 55) hx hb (tb_at tk_X8_odds 49 rfl) (by decide) ?_
                  exact ih55 (y6_l55 * s1_j88) (y7_l55 + 1) _ _ _ h hW hS (lv_sub hl [2, 3, 4, 5, 6, 7, 1, 0] rfl)
                have w87 : ∀ (H : Heap) (locs : List Loc) (ls : Array Slot), f_X8_odds_j87 y6_l55 y7_l55 (f_X8_odds_l55 x1 z_people r30 (fun y6_e97 => f_X8_odds_e97 x1 x2 x3 z_now z_ringed z_lumps z_gave z_at z_people z_st z_wantsMany z_wants z_weight r30 k N y6_e97) N n55) = some res → PD (dC, dI) A (w_X8_odds cI cZ cQ cW z_o z_weight_a z_wants_a z_wantsMany_a z_st_a z_was_a z_images_a z_isKept_a z_told_a z_text_a z_saidWeight_a z_saidNights_a z_saidWants_a z_saidMany_a z_now_a z_gave_a z_at_a z_way_a z_bestWay_a z_made_a z_people z_known z_toldMany z_trace z_texted z_cursor z_start z_token z_number z_isWrong z_items z_saidPeople z_saidLaw z_ringed z_lumps z_st z_now z_gave z_wantsMany z_wants z_weight z_at) H → va_S A s.heap H locs → lv_has ls 10 [(0, .ref z_o), (1, .int x1), (2, .int x2), (3, .int x3), (4, .int r30), (5, .int 0), (7, .int y7_l55)] → W p l e rm_X8_odds s m args below meth c H locs 0 0 Q (F0 m 87 ls [.int y6_l55]) := by
                  intro H locs ls h hW hS hl
                  unfold f_X8_odds_j87 at h
                  refine lv_iconst (pc := 87) (v := 1) hx hb (tb_at tk_X8_odds 45 rfl) (by decide) ?_
                  exact w88 1 _ _ _ h hW hS (lv_sub hl [0, 1, 2, 3, 4, 5, 6] rfl)
                refine lv_icmp_eq (pc := 69) (tgt := 87) hx hb (tb_at tk_X8_odds 38 rfl) (by decide) (fun cc => ?_) (fun cc => ?_)
                · have h := it_t cc h
                  exact w87  _ _ _ h hW hS (lv_sub hl [0, 1, 2, 3, 4, 5, 7] rfl)
                · have h := it_f cc h
                  refine lv_iload (pc := 72) hx hb (tb_at tk_X8_odds 39 rfl) (lv_at hl 4 rfl) ?_
                  refine lv_iload (pc := 74) hx hb (tb_at tk_X8_odds 40 rfl) (lv_at hl 7 rfl) ?_
                  refine k_call0 (pc := 76) B (k_runSi (rest := [.int y6_l55]) (host := "") B (c_X8_has l dC dI cI cZ cQ cW   r30 y7_l55 N _ res h) E0_st (fun _ _ _ => trivial) q_c_X8_has q_m_X8_113 q_t_X8_has q_n_X8 hd_X8_has ⟨rfl, rfl⟩ ⟨Nat.le_of_ble_eq_true rfl, Nat.le_of_ble_eq_true rfl⟩ hW [] rfl (by decide +kernel) rfl hl.1 rfl (Nat.le_of_ble_eq_true rfl) (tb_at tk_X8_odds 41 rfl) ⟨Nat.zero_le _, Nat.zero_le _⟩) hW hS (fun r76 u H locs h hW hS => ?_)
                  refine lv_if_eq (pc := 79) (tgt := 87) hx hb (tb_at tk_X8_odds 42 rfl) (by decide) (fun cc => ?_) (fun cc => ?_)
                  · have h := it_t cc h
                    exact w87  _ _ _ h hW hS (lv_sub hl [0, 1, 2, 3, 4, 5, 7] rfl)
                  · have h := it_f cc h
                    refine lv_bipush (pc := 82) (v := 10) hx hb (tb_at tk_X8_odds 43 rfl) (by decide) ?_
                    refine lv_goto (pc := 84) (tgt := 88) hx hb (tb_at tk_X8_odds 44 rfl) (by decide) ?_
                    exact w88 10 _ _ _ h hW hS (lv_sub hl [0, 1, 2, 3, 4, 5, 7] rfl)
          exact w55 N 1 0 _ _ _ h hW hS (lv_sub hl [4, 5, 6, 7, 3, 2, 1, 0] rfl)
        · have h := it_t cc h
          refine lv_iload_n (pc := 44) hx hb (tb_at tk_X8_odds 23 rfl) rfl (lv_at hl 4 rfl) ?_
          exact hQ x3 (z_ringed, z_lumps, z_now, z_gave, z_at) _ _ _ 45 rfl h hW hS (tb_at tk_X8_odds 24 rfl)
      · have h := it_t cc h
        refine lv_iconst (pc := 27) (v := (-1)) hx hb (tb_at tk_X8_odds 14 rfl) (by decide) ?_
        exact hQ (-1) (z_ringed, z_lumps, z_now, z_gave, z_at) _ _ _ 28 rfl h hW hS (tb_at tk_X8_odds 15 rfl)
def f_X8_hours_e111 {ρ : Type} (z_st : Nat → Int32) (k : Int32 → (Nat → Int32) → Option ρ) (z_made_e111 : Nat → Int32) : Option ρ := ck (ivi (((1 : Int32) <<< ((z_st ((13 : Int32)).toNatClampNeg) &&& 31)) - 1) 256) (k (z_made_e111 (((1 : Int32) <<< ((z_st ((13 : Int32)).toNatClampNeg) &&& 31)) - 1).toNatClampNeg) z_made_e111)
def f_X8_hours_e105 {ρ : Type} (y2_l12 : Int32) (kb12 : Int32 → (Nat → Int32) → Option ρ) (z_made_e105 : Nat → Int32) : Option ρ := kb12 (y2_l12 + 1) z_made_e105
def f_X8_hours_j95 {ρ : Type} (y2_l12 : Int32) (y3_l26 : Int32) (z_made_l26 : Nat → Int32) (kb26 : Int32 → (Nat → Int32) → Option ρ) (s2_j95 : Int32) : Option ρ := ck (ivi y2_l12 256) (kb26 ((y3_l26 - 1) &&& y2_l12) (upd z_made_l26 (y2_l12).toNatClampNeg s2_j95))
def f_X8_hours_j64 {ρ : Type} (y2_l12 : Int32) (y3_l26 : Int32) (z_made_l26 : Nat → Int32) (kb26 : Int32 → (Nat → Int32) → Option ρ) (s0_j64 : Int32) : Option ρ := if s0_j64 = 0 then (ck (ivi y2_l12 256) (f_X8_hours_j95 y2_l12 y3_l26 z_made_l26 kb26 (z_made_l26 (y2_l12).toNatClampNeg))) else (ck (ivi (y2_l12 - y3_l26) 256) (f_X8_hours_j95 y2_l12 y3_l26 z_made_l26 kb26 ((z_made_l26 (y2_l12 - y3_l26).toNatClampNeg) + 1)))
def f_X8_hours_j63 {ρ : Type} (y2_l12 : Int32) (y3_l26 : Int32) (z_made_l26 : Nat → Int32) (kb26 : Int32 → (Nat → Int32) → Option ρ) : Option ρ := f_X8_hours_j64 y2_l12 y3_l26 z_made_l26 kb26 0
def f_X8_hours_l26 {ρ : Type} (z_st : Nat → Int32) (y2_l12 : Int32) (k105 : (Nat → Int32) → Option ρ) (N : Nat) : Nat → Int32 → (Nat → Int32) → Option ρ
  | 0, _, _ => none
  | n26 + 1, y3_l26, z_made_l26 => if y3_l26 ≤ 0 then (k105 z_made_l26) else (f_X8_sumOf N z_st y3_l26 (fun r32 => if r32 = 60 then (ck (ivi (y2_l12 - y3_l26) 256) (ck (ivi y2_l12 256) (if ((z_made_l26 (y2_l12 - y3_l26).toNatClampNeg) + 1) ≤ (z_made_l26 (y2_l12).toNatClampNeg) then (f_X8_hours_j63 y2_l12 y3_l26 z_made_l26 (f_X8_hours_l26 z_st y2_l12 k105 N n26) ) else (f_X8_hours_j64 y2_l12 y3_l26 z_made_l26 (f_X8_hours_l26 z_st y2_l12 k105 N n26) 1)))) else (f_X8_hours_j63 y2_l12 y3_l26 z_made_l26 (f_X8_hours_l26 z_st y2_l12 k105 N n26) )))
def f_X8_hours_l12 {ρ : Type} (z_st : Nat → Int32) (k111 : (Nat → Int32) → Option ρ) (N : Nat) : Nat → Int32 → (Nat → Int32) → Option ρ
  | 0, _, _ => none
  | n12 + 1, y2_l12, z_made_l12 => if ((1 : Int32) <<< ((z_st ((13 : Int32)).toNatClampNeg) &&& 31)) ≤ y2_l12 then (k111 z_made_l12) else (ck (ivi y2_l12 256) (f_X8_hours_l26 z_st y2_l12 (fun z_made_e105 => f_X8_hours_e105 y2_l12 (f_X8_hours_l12 z_st k111 N n12) z_made_e105) N N y2_l12 (upd z_made_l12 (y2_l12).toNatClampNeg 0)))
def f_X8_hours {ρ : Type} (N : Nat) (z_st : Nat → Int32) (z_made : Nat → Int32) (k : Int32 → (Nat → Int32) → Option ρ) : Option ρ := ck (ivi (13 : Int32) 25) (f_X8_hours_l12 z_st (fun z_made_e111 => f_X8_hours_e111 z_st k z_made_e111) N N 0 z_made)
abbrev w_X8_hours (cI cZ cQ cW : ClassId) (z_o : Nat) (z_weight_a : Nat) (z_wants_a : Nat) (z_wantsMany_a : Nat) (z_st_a : Nat) (z_was_a : Nat) (z_images_a : Nat) (z_isKept_a : Nat) (z_told_a : Nat) (z_text_a : Nat) (z_saidWeight_a : Nat) (z_saidNights_a : Nat) (z_saidWants_a : Nat) (z_saidMany_a : Nat) (z_now_a : Nat) (z_gave_a : Nat) (z_at_a : Nat) (z_way_a : Nat) (z_bestWay_a : Nat) (z_made_a : Nat) (z_people : Int32) (z_known : Int32) (z_toldMany : Int32) (z_trace : Int64) (z_texted : Int32) (z_cursor : Int32) (z_start : Int32) (z_token : Int32) (z_number : Int32) (z_isWrong : Int32) (z_items : Int32) (z_saidPeople : Int32) (z_saidLaw : Int32) (z_ringed : Int32) (z_lumps : Int32) (z_st : Nat → Int32) (z_made : Nat → Int32) : va_W := [(z_o, .inr (8, [.int z_people, .ref z_weight_a, .ref z_wants_a, .ref z_wantsMany_a, .ref z_st_a, .ref z_was_a, .int z_known, .ref z_images_a, .ref z_isKept_a, .int z_toldMany, .ref z_told_a, .long z_trace, .ref z_text_a, .int z_texted, .int z_cursor, .int z_start, .int z_token, .int z_number, .int z_isWrong, .int z_items, .int z_saidPeople, .ref z_saidWeight_a, .ref z_saidNights_a, .ref z_saidWants_a, .ref z_saidMany_a, .int z_saidLaw, .ref z_now_a, .ref z_gave_a, .ref z_at_a, .int z_ringed, .int z_lumps, .ref z_way_a, .ref z_bestWay_a, .ref z_made_a])), (z_st_a, .inl (cI, 25, .inl z_st)), (z_made_a, .inl (cI, 256, .inl z_made))]
abbrev rm_X8_hours : Room := { frames := 2, cells := 0, slots := 0, locals := 44 }
set_option maxHeartbeats 4000000 in
set_option maxRecDepth 100000 in
theorem c_X8_hours (l : Launch) (dC : Nat → ClassId) (dI : Nat → Nat → Nat) (cI cZ cQ cW : ClassId) (z_o : Nat) (z_weight_a : Nat) (z_wants_a : Nat) (z_wantsMany_a : Nat) (z_st_a : Nat) (z_was_a : Nat) (z_images_a : Nat) (z_isKept_a : Nat) (z_told_a : Nat) (z_text_a : Nat) (z_saidWeight_a : Nat) (z_saidNights_a : Nat) (z_saidWants_a : Nat) (z_saidMany_a : Nat) (z_now_a : Nat) (z_gave_a : Nat) (z_at_a : Nat) (z_way_a : Nat) (z_bestWay_a : Nat) (z_made_a : Nat) (z_people : Int32) (z_known : Int32) (z_toldMany : Int32) (z_trace : Int64) (z_texted : Int32) (z_cursor : Int32) (z_start : Int32) (z_token : Int32) (z_number : Int32) (z_isWrong : Int32) (z_items : Int32) (z_saidPeople : Int32) (z_saidLaw : Int32) (z_ringed : Int32) (z_lumps : Int32) (z_st : Nat → Int32) (z_made : Nat → Int32) {ρ : Type} (N : Nat) (k : Int32 → (Nat → Int32) → Option ρ) (res : ρ) (h : f_X8_hours N z_st z_made k = some res) : Ci l yX8_hours (WS yX8_hours cX8_hours 5 (some .int)) rm_X8_hours (dC, dI) (tysG cI cZ cQ cW) E0 [.ref z_o] (w_X8_hours cI cZ cQ cW z_o z_weight_a z_wants_a z_wantsMany_a z_st_a z_was_a z_images_a z_isKept_a z_told_a z_text_a z_saidWeight_a z_saidNights_a z_saidWants_a z_saidMany_a z_now_a z_gave_a z_at_a z_way_a z_bestWay_a z_made_a z_people z_known z_toldMany z_trace z_texted z_cursor z_start z_token z_number z_isWrong z_items z_saidPeople z_saidLaw z_ringed z_lumps z_st z_made) (fun (u : (Nat → Int32)) => (w_X8_hours cI cZ cQ cW z_o z_weight_a z_wants_a z_wantsMany_a z_st_a z_was_a z_images_a z_isKept_a z_told_a z_text_a z_saidWeight_a z_saidNights_a z_saidWants_a z_saidMany_a z_now_a z_gave_a z_at_a z_way_a z_bestWay_a z_made_a z_people z_known z_toldMany z_trace z_texted z_cursor z_start z_token z_number z_isWrong z_items z_saidPeople z_saidLaw z_ringed z_lumps z_st u)) (fun r u => k r u = some res) := by
  refine Ci.of (cc := cX8_hours) (n := 5) (by decide +kernel) (Nat.le_of_ble_eq_true rfl) ?_
  intro p e s m args below meth c A ls Q B hW hE hS hl hQ
  have hx := B.1
  have hb := B.2.1
  have hl : lv_has ls 5 [(0, .ref z_o)] := hl
  unfold f_X8_hours at h
  refine lv_iconst (pc := 0) (v := 1) hx hb (tb_at tk_X8_hours 0 rfl) (by decide) ?_
  refine lv_aload_n (pc := 1) hx hb (tb_at tk_X8_hours 1 rfl) rfl (lv_at hl 0 rfl) ?_
  refine k_get (pc := 2) (v := .ref z_st_a) (T := TX8) B inG8 hW 0 rfl rfl 4 (by decide) q_f_X8_19 rfl rfl (tb_at tk_X8_hours 2 rfl) ?_
  refine lv_bipush (pc := 5) (v := 13) hx hb (tb_at tk_X8_hours 3 rfl) (by decide) ?_
  have ii := ivi_in (ck_l h)
  have h := ck_r h
  refine k_iald (pc := 7) B hW 1 0 rfl rfl ii (tb_at tk_X8_hours 4 rfl) ?_
  refine lv_ishl (pc := 8) hx hb (tb_at tk_X8_hours 5 rfl) ?_
  refine lv_istore_n (pc := 9) (lv' := [(1, .int ((1 : Int32) <<< ((z_st ((13 : Int32)).toNatClampNeg) &&& 31))), (0, .ref z_o)]) hx hb (tb_at tk_X8_hours 6 rfl) rfl hl (by decide) rfl (fun ls hl => ?_)
  refine lv_iconst (pc := 10) (v := 0) hx hb (tb_at tk_X8_hours 7 rfl) (by decide) ?_
  refine lv_istore_n (pc := 11) (lv' := [(2, .int 0), (1, .int ((1 : Int32) <<< ((z_st ((13 : Int32)).toNatClampNeg) &&& 31))), (0, .ref z_o)]) hx hb (tb_at tk_X8_hours 8 rfl) rfl hl (by decide) rfl (fun ls hl => ?_)
  have w111 : ∀ (z_made_e111 : Nat → Int32) (H : Heap) (locs : List Loc) (ls : Array Slot), f_X8_hours_e111 z_st k z_made_e111 = some res → PD (dC, dI) A (w_X8_hours cI cZ cQ cW z_o z_weight_a z_wants_a z_wantsMany_a z_st_a z_was_a z_images_a z_isKept_a z_told_a z_text_a z_saidWeight_a z_saidNights_a z_saidWants_a z_saidMany_a z_now_a z_gave_a z_at_a z_way_a z_bestWay_a z_made_a z_people z_known z_toldMany z_trace z_texted z_cursor z_start z_token z_number z_isWrong z_items z_saidPeople z_saidLaw z_ringed z_lumps z_st z_made_e111) H → va_S A s.heap H locs → lv_has ls 5 [(0, .ref z_o), (1, .int ((1 : Int32) <<< ((z_st ((13 : Int32)).toNatClampNeg) &&& 31)))] → W p l e rm_X8_hours s m args below meth c H locs 0 0 Q (F0 m 111 ls []) := by
    intro z_made_e111 H locs ls h hW hS hl
    unfold f_X8_hours_e111 at h
    refine lv_aload_n (pc := 111) hx hb (tb_at tk_X8_hours 71 rfl) rfl (lv_at hl 0 rfl) ?_
    refine k_get (pc := 112) (v := .ref z_made_a) (T := TX8) B inG8 hW 0 rfl rfl 33 (by decide) q_f_X8_65 rfl rfl (tb_at tk_X8_hours 72 rfl) ?_
    refine lv_iload_n (pc := 115) hx hb (tb_at tk_X8_hours 73 rfl) rfl (lv_at hl 1 rfl) ?_
    refine lv_iconst (pc := 116) (v := 1) hx hb (tb_at tk_X8_hours 74 rfl) (by decide) ?_
    refine lv_isub (pc := 117) hx hb (tb_at tk_X8_hours 75 rfl) ?_
    have ii := ivi_in (ck_l h)
    have h := ck_r h
    refine k_iald (pc := 118) B hW 2 0 rfl rfl ii (tb_at tk_X8_hours 76 rfl) ?_
    exact hQ (z_made_e111 (((1 : Int32) <<< ((z_st ((13 : Int32)).toNatClampNeg) &&& 31)) - 1).toNatClampNeg) (z_made_e111) _ _ _ 119 rfl h hW hS (tb_at tk_X8_hours 77 rfl)
  have w12 : ∀ (n : Nat), ∀ (y2_l12 : Int32) (z_made_l12 : Nat → Int32) (H : Heap) (locs : List Loc) (ls : Array Slot), f_X8_hours_l12 z_st (fun z_made_e111 => f_X8_hours_e111 z_st k z_made_e111) N n y2_l12 z_made_l12 = some res → PD (dC, dI) A (w_X8_hours cI cZ cQ cW z_o z_weight_a z_wants_a z_wantsMany_a z_st_a z_was_a z_images_a z_isKept_a z_told_a z_text_a z_saidWeight_a z_saidNights_a z_saidWants_a z_saidMany_a z_now_a z_gave_a z_at_a z_way_a z_bestWay_a z_made_a z_people z_known z_toldMany z_trace z_texted z_cursor z_start z_token z_number z_isWrong z_items z_saidPeople z_saidLaw z_ringed z_lumps z_st z_made_l12) H → va_S A s.heap H locs → lv_has ls 5 [(0, .ref z_o), (1, .int ((1 : Int32) <<< ((z_st ((13 : Int32)).toNatClampNeg) &&& 31))), (2, .int y2_l12)] → W p l e rm_X8_hours s m args below meth c H locs 0 0 Q (F0 m 12 ls []) := by
    intro n
    induction n with
    | zero => intro y2_l12 z_made_l12 H locs ls h; exact no_n h
    | succ n12 ih12 =>
      intro y2_l12 z_made_l12 H locs ls h hW hS hl
      rw [f_X8_hours_l12] at h
      refine lv_iload_n (pc := 12) hx hb (tb_at tk_X8_hours 9 rfl) rfl (lv_at hl 2 rfl) ?_
      refine lv_iload_n (pc := 13) hx hb (tb_at tk_X8_hours 10 rfl) rfl (lv_at hl 1 rfl) ?_
      refine lv_icmp_ge (pc := 14) (tgt := 111) hx hb (tb_at tk_X8_hours 11 rfl) (by decide) (fun cc => ?_) (fun cc => ?_)
      · have h := it_t cc h
        exact w111 z_made_l12 _ _ _ h hW hS (lv_sub hl [0, 1] rfl)
      · have h := it_f cc h
        refine lv_aload_n (pc := 17) hx hb (tb_at tk_X8_hours 12 rfl) rfl (lv_at hl 0 rfl) ?_
        refine k_get (pc := 18) (v := .ref z_made_a) (T := TX8) B inG8 hW 0 rfl rfl 33 (by decide) q_f_X8_65 rfl rfl (tb_at tk_X8_hours 13 rfl) ?_
        refine lv_iload_n (pc := 21) hx hb (tb_at tk_X8_hours 14 rfl) rfl (lv_at hl 2 rfl) ?_
        refine lv_iconst (pc := 22) (v := 0) hx hb (tb_at tk_X8_hours 15 rfl) (by decide) ?_
        have ii := ivi_in (ck_l h)
        have h := ck_r h
        refine k_iast (pc := 23) B hW hS 2 0 rfl rfl ii (tb_at tk_X8_hours 16 rfl) (w_X8_hours cI cZ cQ cW z_o z_weight_a z_wants_a z_wantsMany_a z_st_a z_was_a z_images_a z_isKept_a z_told_a z_text_a z_saidWeight_a z_saidNights_a z_saidWants_a z_saidMany_a z_now_a z_gave_a z_at_a z_way_a z_bestWay_a z_made_a z_people z_known z_toldMany z_trace z_texted z_cursor z_start z_token z_number z_isWrong z_items z_saidPeople z_saidLaw z_ringed z_lumps z_st (upd z_made_l12 (y2_l12).toNatClampNeg 0)) rfl (fun H locs hW hS => ?_)
        refine lv_iload_n (pc := 24) hx hb (tb_at tk_X8_hours 17 rfl) rfl (lv_at hl 2 rfl) ?_
        refine lv_istore_n (pc := 25) (lv' := [(3, .int y2_l12), (0, .ref z_o), (1, .int ((1 : Int32) <<< ((z_st ((13 : Int32)).toNatClampNeg) &&& 31))), (2, .int y2_l12)]) hx hb (tb_at tk_X8_hours 18 rfl) rfl hl (by decide) rfl (fun ls hl => ?_)
        have w105 : ∀ (z_made_e105 : Nat → Int32) (H : Heap) (locs : List Loc) (ls : Array Slot), f_X8_hours_e105 y2_l12 (f_X8_hours_l12 z_st (fun z_made_e111 => f_X8_hours_e111 z_st k z_made_e111) N n12) z_made_e105 = some res → PD (dC, dI) A (w_X8_hours cI cZ cQ cW z_o z_weight_a z_wants_a z_wantsMany_a z_st_a z_was_a z_images_a z_isKept_a z_told_a z_text_a z_saidWeight_a z_saidNights_a z_saidWants_a z_saidMany_a z_now_a z_gave_a z_at_a z_way_a z_bestWay_a z_made_a z_people z_known z_toldMany z_trace z_texted z_cursor z_start z_token z_number z_isWrong z_items z_saidPeople z_saidLaw z_ringed z_lumps z_st z_made_e105) H → va_S A s.heap H locs → lv_has ls 5 [(0, .ref z_o), (1, .int ((1 : Int32) <<< ((z_st ((13 : Int32)).toNatClampNeg) &&& 31))), (2, .int y2_l12)] → W p l e rm_X8_hours s m args below meth c H locs 0 0 Q (F0 m 105 ls []) := by
          intro z_made_e105 H locs ls h hW hS hl
          unfold f_X8_hours_e105 at h
          refine lv_iinc (pc := 105) (v := y2_l12 + 1) (lv' := [(2, .int (y2_l12 + 1)), (0, .ref z_o), (1, .int ((1 : Int32) <<< ((z_st ((13 : Int32)).toNatClampNeg) &&& 31)))]) hx hb (tb_at tk_X8_hours 69 rfl) hl (k := 2) rfl rfl (by decide) rfl (fun ls hl => ?_)
          refine lv_goto (pc := 108) (tgt := 12) hx hb (tb_at tk_X8_hours 70 rfl) (by decide) ?_
          exact ih12 (y2_l12 + 1) z_made_e105 _ _ _ h hW hS (lv_sub hl [1, 2, 0] rfl)
        have w26 : ∀ (n : Nat), ∀ (y3_l26 : Int32) (z_made_l26 : Nat → Int32) (H : Heap) (locs : List Loc) (ls : Array Slot), f_X8_hours_l26 z_st y2_l12 (fun z_made_e105 => f_X8_hours_e105 y2_l12 (f_X8_hours_l12 z_st (fun z_made_e111 => f_X8_hours_e111 z_st k z_made_e111) N n12) z_made_e105) N n y3_l26 z_made_l26 = some res → PD (dC, dI) A (w_X8_hours cI cZ cQ cW z_o z_weight_a z_wants_a z_wantsMany_a z_st_a z_was_a z_images_a z_isKept_a z_told_a z_text_a z_saidWeight_a z_saidNights_a z_saidWants_a z_saidMany_a z_now_a z_gave_a z_at_a z_way_a z_bestWay_a z_made_a z_people z_known z_toldMany z_trace z_texted z_cursor z_start z_token z_number z_isWrong z_items z_saidPeople z_saidLaw z_ringed z_lumps z_st z_made_l26) H → va_S A s.heap H locs → lv_has ls 5 [(0, .ref z_o), (1, .int ((1 : Int32) <<< ((z_st ((13 : Int32)).toNatClampNeg) &&& 31))), (2, .int y2_l12), (3, .int y3_l26)] → W p l e rm_X8_hours s m args below meth c H locs 0 0 Q (F0 m 26 ls []) := by
          intro n
          induction n with
          | zero => intro y3_l26 z_made_l26 H locs ls h; exact no_n h
          | succ n26 ih26 =>
            intro y3_l26 z_made_l26 H locs ls h hW hS hl
            rw [f_X8_hours_l26] at h
            refine lv_iload_n (pc := 26) hx hb (tb_at tk_X8_hours 19 rfl) rfl (lv_at hl 3 rfl) ?_
            refine lv_if_le (pc := 27) (tgt := 105) hx hb (tb_at tk_X8_hours 20 rfl) (by decide) (fun cc => ?_) (fun cc => ?_)
            · have h := it_t cc h
              exact w105 z_made_l26 _ _ _ h hW hS (lv_sub hl [0, 1, 2] rfl)
            · have h := it_f cc h
              refine lv_aload_n (pc := 30) hx hb (tb_at tk_X8_hours 21 rfl) rfl (lv_at hl 0 rfl) ?_
              refine lv_iload_n (pc := 31) hx hb (tb_at tk_X8_hours 22 rfl) rfl (lv_at hl 3 rfl) ?_
              refine k_calli (pc := 32) B (k_runVi (rest := []) (C := RX8) B (c_X8_sumOf l dC dI cI cZ cQ cW z_o z_weight_a z_wants_a z_wantsMany_a z_st_a z_was_a z_images_a z_isKept_a z_told_a z_text_a z_saidWeight_a z_saidNights_a z_saidWants_a z_saidMany_a z_now_a z_gave_a z_at_a z_way_a z_bestWay_a z_made_a z_people z_known z_toldMany z_trace z_texted z_cursor z_start z_token z_number z_isWrong z_items z_saidPeople z_saidLaw z_ringed z_lumps z_st y3_l26 N _ res h) E0_st (fun _ _ _ => trivial) q_c_X8_sumOf q_m_X8_188 q_i_X8_sumOf q_s_X8_sumOf q_n_X8 hd_X8_sumOf ⟨rfl, rfl⟩ ⟨Nat.le_of_ble_eq_true rfl, Nat.le_of_ble_eq_true rfl⟩ hW [0, 1] rfl (by decide +kernel) (q0 := 0) (ci := 8) rfl rfl rfl hl.1 rfl (Nat.le_of_ble_eq_true rfl) (tb_at tk_X8_hours 23 rfl) ⟨Nat.zero_le _, Nat.zero_le _⟩) hW hS [0, 1] rfl [z_o, z_st_a] rfl (fun _ => rfl) [some 0, some 1, none] (by decide +kernel) (fun _ => (w_X8_hours cI cZ cQ cW z_o z_weight_a z_wants_a z_wantsMany_a z_st_a z_was_a z_images_a z_isKept_a z_told_a z_text_a z_saidWeight_a z_saidNights_a z_saidWants_a z_saidMany_a z_now_a z_gave_a z_at_a z_way_a z_bestWay_a z_made_a z_people z_known z_toldMany z_trace z_texted z_cursor z_start z_token z_number z_isWrong z_items z_saidPeople z_saidLaw z_ringed z_lumps z_st z_made_l26)) (fun _ => rfl) (fun r32 u H locs h hW hS => ?_)
              have hW : PD (dC, dI) A (w_X8_hours cI cZ cQ cW z_o z_weight_a z_wants_a z_wantsMany_a z_st_a z_was_a z_images_a z_isKept_a z_told_a z_text_a z_saidWeight_a z_saidNights_a z_saidWants_a z_saidMany_a z_now_a z_gave_a z_at_a z_way_a z_bestWay_a z_made_a z_people z_known z_toldMany z_trace z_texted z_cursor z_start z_token z_number z_isWrong z_items z_saidPeople z_saidLaw z_ringed z_lumps z_st z_made_l26) H := hW
              refine lv_bipush (pc := 35) (v := 60) hx hb (tb_at tk_X8_hours 24 rfl) (by decide) ?_
              have w64 : ∀ (s0_j64 : Int32) (H : Heap) (locs : List Loc) (ls : Array Slot), f_X8_hours_j64 y2_l12 y3_l26 z_made_l26 (f_X8_hours_l26 z_st y2_l12 (fun z_made_e105 => f_X8_hours_e105 y2_l12 (f_X8_hours_l12 z_st (fun z_made_e111 => f_X8_hours_e111 z_st k z_made_e111) N n12) z_made_e105) N n26) s0_j64 = some res → PD (dC, dI) A (w_X8_hours cI cZ cQ cW z_o z_weight_a z_wants_a z_wantsMany_a z_st_a z_was_a z_images_a z_isKept_a z_told_a z_text_a z_saidWeight_a z_saidNights_a z_saidWants_a z_saidMany_a z_now_a z_gave_a z_at_a z_way_a z_bestWay_a z_made_a z_people z_known z_toldMany z_trace z_texted z_cursor z_start z_token z_number z_isWrong z_items z_saidPeople z_saidLaw z_ringed z_lumps z_st z_made_l26) H → va_S A s.heap H locs → lv_has ls 5 [(0, .ref z_o), (1, .int ((1 : Int32) <<< ((z_st ((13 : Int32)).toNatClampNeg) &&& 31))), (2, .int y2_l12), (3, .int y3_l26)] → W p l e rm_X8_hours s m args below meth c H locs 0 0 Q (F0 m 64 ls [.int s0_j64]) := by
                intro s0_j64 H locs ls h hW hS hl
                unfold f_X8_hours_j64 at h
                refine lv_istore (pc := 64) (lv' := [(4, .int s0_j64), (0, .ref z_o), (1, .int ((1 : Int32) <<< ((z_st ((13 : Int32)).toNatClampNeg) &&& 31))), (2, .int y2_l12), (3, .int y3_l26)]) hx hb (tb_at tk_X8_hours 42 rfl) hl (by decide) rfl (fun ls hl => ?_)
                refine lv_aload_n (pc := 66) hx hb (tb_at tk_X8_hours 43 rfl) rfl (lv_at hl 1 rfl) ?_
                refine k_get (pc := 67) (v := .ref z_made_a) (T := TX8) B inG8 hW 0 rfl rfl 33 (by decide) q_f_X8_65 rfl rfl (tb_at tk_X8_hours 44 rfl) ?_
                refine lv_iload_n (pc := 70) hx hb (tb_at tk_X8_hours 45 rfl) rfl (lv_at hl 3 rfl) ?_
                refine lv_iload (pc := 71) hx hb (tb_at tk_X8_hours 46 rfl) (lv_at hl 0 rfl) ?_
                have w95 : ∀ (s2_j95 : Int32) (H : Heap) (locs : List Loc) (ls : Array Slot), f_X8_hours_j95 y2_l12 y3_l26 z_made_l26 (f_X8_hours_l26 z_st y2_l12 (fun z_made_e105 => f_X8_hours_e105 y2_l12 (f_X8_hours_l12 z_st (fun z_made_e111 => f_X8_hours_e111 z_st k z_made_e111) N n12) z_made_e105) N n26) s2_j95 = some res → PD (dC, dI) A (w_X8_hours cI cZ cQ cW z_o z_weight_a z_wants_a z_wantsMany_a z_st_a z_was_a z_images_a z_isKept_a z_told_a z_text_a z_saidWeight_a z_saidNights_a z_saidWants_a z_saidMany_a z_now_a z_gave_a z_at_a z_way_a z_bestWay_a z_made_a z_people z_known z_toldMany z_trace z_texted z_cursor z_start z_token z_number z_isWrong z_items z_saidPeople z_saidLaw z_ringed z_lumps z_st z_made_l26) H → va_S A s.heap H locs → lv_has ls 5 [(0, .ref z_o), (1, .int ((1 : Int32) <<< ((z_st ((13 : Int32)).toNatClampNeg) &&& 31))), (2, .int y2_l12), (3, .int y3_l26)] → W p l e rm_X8_hours s m args below meth c H locs 0 0 Q (F0 m 95 ls [.int s2_j95, .int y2_l12, .ref z_made_a]) := by
                  intro s2_j95 H locs ls h hW hS hl
                  unfold f_X8_hours_j95 at h
                  have ii := ivi_in (ck_l h)
                  have h := ck_r h
                  refine k_iast (pc := 95) B hW hS 2 0 rfl rfl ii (tb_at tk_X8_hours 61 rfl) (w_X8_hours cI cZ cQ cW z_o z_weight_a z_wants_a z_wantsMany_a z_st_a z_was_a z_images_a z_isKept_a z_told_a z_text_a z_saidWeight_a z_saidNights_a z_saidWants_a z_saidMany_a z_now_a z_gave_a z_at_a z_way_a z_bestWay_a z_made_a z_people z_known z_toldMany z_trace z_texted z_cursor z_start z_token z_number z_isWrong z_items z_saidPeople z_saidLaw z_ringed z_lumps z_st (upd z_made_l26 (y2_l12).toNatClampNeg s2_j95)) rfl (fun H locs hW hS => ?_)
                  refine lv_iload_n (pc := 96) hx hb (tb_at tk_X8_hours 62 rfl) rfl (lv_at hl 3 rfl) ?_
                  refine lv_iconst (pc := 97) (v := 1) hx hb (tb_at tk_X8_hours 63 rfl) (by decide) ?_
                  refine lv_isub (pc := 98) hx hb (tb_at tk_X8_hours 64 rfl) ?_
                  refine lv_iload_n (pc := 99) hx hb (tb_at tk_X8_hours 65 rfl) rfl (lv_at hl 2 rfl) ?_
                  refine lv_iand (pc := 100) hx hb (tb_at tk_X8_hours 66 rfl) ?_
                  refine lv_istore_n (pc := 101) (lv' := [(3, .int ((y3_l26 - 1) &&& y2_l12)), (0, .ref z_o), (1, .int ((1 : Int32) <<< ((z_st ((13 : Int32)).toNatClampNeg) &&& 31))), (2, .int y2_l12)]) hx hb (tb_at tk_X8_hours 67 rfl) rfl hl (by decide) rfl (fun ls hl => ?_)
                  refine lv_goto (pc := 102) (tgt := 26) hx hb (tb_at tk_X8_hours 68 rfl) (by decide) ?_
                  exact ih26 ((y3_l26 - 1) &&& y2_l12) (upd z_made_l26 (y2_l12).toNatClampNeg s2_j95) _ _ _ h hW hS (lv_sub hl [1, 2, 3, 0] rfl)
                refine lv_if_eq (pc := 73) (tgt := 89) hx hb (tb_at tk_X8_hours 47 rfl) (by decide) (fun cc => ?_) (fun cc => ?_)
                · have h := it_t cc h
                  refine lv_aload_n (pc := 89) hx hb (tb_at tk_X8_hours 57 rfl) rfl (lv_at hl 1 rfl) ?_
                  refine k_get (pc := 90) (v := .ref z_made_a) (T := TX8) B inG8 hW 0 rfl rfl 33 (by decide) q_f_X8_65 rfl rfl (tb_at tk_X8_hours 58 rfl) ?_
                  refine lv_iload_n (pc := 93) hx hb (tb_at tk_X8_hours 59 rfl) rfl (lv_at hl 3 rfl) ?_
                  have ii := ivi_in (ck_l h)
                  have h := ck_r h
                  refine k_iald (pc := 94) B hW 2 0 rfl rfl ii (tb_at tk_X8_hours 60 rfl) ?_
                  exact w95 (z_made_l26 (y2_l12).toNatClampNeg) _ _ _ h hW hS (lv_sub hl [1, 2, 3, 4] rfl)
                · have h := it_f cc h
                  refine lv_aload_n (pc := 76) hx hb (tb_at tk_X8_hours 48 rfl) rfl (lv_at hl 1 rfl) ?_
                  refine k_get (pc := 77) (v := .ref z_made_a) (T := TX8) B inG8 hW 0 rfl rfl 33 (by decide) q_f_X8_65 rfl rfl (tb_at tk_X8_hours 49 rfl) ?_
                  refine lv_iload_n (pc := 80) hx hb (tb_at tk_X8_hours 50 rfl) rfl (lv_at hl 3 rfl) ?_
                  refine lv_iload_n (pc := 81) hx hb (tb_at tk_X8_hours 51 rfl) rfl (lv_at hl 4 rfl) ?_
                  refine lv_isub (pc := 82) hx hb (tb_at tk_X8_hours 52 rfl) ?_
                  have ii := ivi_in (ck_l h)
                  have h := ck_r h
                  refine k_iald (pc := 83) B hW 2 0 rfl rfl ii (tb_at tk_X8_hours 53 rfl) ?_
                  refine lv_iconst (pc := 84) (v := 1) hx hb (tb_at tk_X8_hours 54 rfl) (by decide) ?_
                  refine lv_iadd (pc := 85) hx hb (tb_at tk_X8_hours 55 rfl) ?_
                  refine lv_goto (pc := 86) (tgt := 95) hx hb (tb_at tk_X8_hours 56 rfl) (by decide) ?_
                  exact w95 ((z_made_l26 (y2_l12 - y3_l26).toNatClampNeg) + 1) _ _ _ h hW hS (lv_sub hl [1, 2, 3, 4] rfl)
              have w63 : ∀ (H : Heap) (locs : List Loc) (ls : Array Slot), f_X8_hours_j63 y2_l12 y3_l26 z_made_l26 (f_X8_hours_l26 z_st y2_l12 (fun z_made_e105 => f_X8_hours_e105 y2_l12 (f_X8_hours_l12 z_st (fun z_made_e111 => f_X8_hours_e111 z_st k z_made_e111) N n12) z_made_e105) N n26) = some res → PD (dC, dI) A (w_X8_hours cI cZ cQ cW z_o z_weight_a z_wants_a z_wantsMany_a z_st_a z_was_a z_images_a z_isKept_a z_told_a z_text_a z_saidWeight_a z_saidNights_a z_saidWants_a z_saidMany_a z_now_a z_gave_a z_at_a z_way_a z_bestWay_a z_made_a z_people z_known z_toldMany z_trace z_texted z_cursor z_start z_token z_number z_isWrong z_items z_saidPeople z_saidLaw z_ringed z_lumps z_st z_made_l26) H → va_S A s.heap H locs → lv_has ls 5 [(0, .ref z_o), (1, .int ((1 : Int32) <<< ((z_st ((13 : Int32)).toNatClampNeg) &&& 31))), (2, .int y2_l12), (3, .int y3_l26)] → W p l e rm_X8_hours s m args below meth c H locs 0 0 Q (F0 m 63 ls []) := by
                intro H locs ls h hW hS hl
                unfold f_X8_hours_j63 at h
                refine lv_iconst (pc := 63) (v := 0) hx hb (tb_at tk_X8_hours 41 rfl) (by decide) ?_
                exact w64 0 _ _ _ h hW hS (lv_sub hl [0, 1, 2, 3] rfl)
              refine lv_icmp_ne (pc := 37) (tgt := 63) hx hb (tb_at tk_X8_hours 25 rfl) (by decide) (fun cc => ?_) (fun cc => ?_)
              · have h := it_f cc h
                exact w63  _ _ _ h hW hS (lv_sub hl [0, 1, 2, 3] rfl)
              · have h := it_t cc h
                refine lv_aload_n (pc := 40) hx hb (tb_at tk_X8_hours 26 rfl) rfl (lv_at hl 0 rfl) ?_
                refine k_get (pc := 41) (v := .ref z_made_a) (T := TX8) B inG8 hW 0 rfl rfl 33 (by decide) q_f_X8_65 rfl rfl (tb_at tk_X8_hours 27 rfl) ?_
                refine lv_iload_n (pc := 44) hx hb (tb_at tk_X8_hours 28 rfl) rfl (lv_at hl 2 rfl) ?_
                refine lv_iload_n (pc := 45) hx hb (tb_at tk_X8_hours 29 rfl) rfl (lv_at hl 3 rfl) ?_
                refine lv_isub (pc := 46) hx hb (tb_at tk_X8_hours 30 rfl) ?_
                have ii := ivi_in (ck_l h)
                have h := ck_r h
                refine k_iald (pc := 47) B hW 2 0 rfl rfl ii (tb_at tk_X8_hours 31 rfl) ?_
                refine lv_iconst (pc := 48) (v := 1) hx hb (tb_at tk_X8_hours 32 rfl) (by decide) ?_
                refine lv_iadd (pc := 49) hx hb (tb_at tk_X8_hours 33 rfl) ?_
                refine lv_aload_n (pc := 50) hx hb (tb_at tk_X8_hours 34 rfl) rfl (lv_at hl 0 rfl) ?_
                refine k_get (pc := 51) (v := .ref z_made_a) (T := TX8) B inG8 hW 0 rfl rfl 33 (by decide) q_f_X8_65 rfl rfl (tb_at tk_X8_hours 35 rfl) ?_
                refine lv_iload_n (pc := 54) hx hb (tb_at tk_X8_hours 36 rfl) rfl (lv_at hl 2 rfl) ?_
                have ii := ivi_in (ck_l h)
                have h := ck_r h
                refine k_iald (pc := 55) B hW 2 0 rfl rfl ii (tb_at tk_X8_hours 37 rfl) ?_
                refine lv_icmp_le (pc := 56) (tgt := 63) hx hb (tb_at tk_X8_hours 38 rfl) (by decide) (fun cc => ?_) (fun cc => ?_)
                · have h := it_t cc h
                  exact w63  _ _ _ h hW hS (lv_sub hl [0, 1, 2, 3] rfl)
                · have h := it_f cc h
                  refine lv_iconst (pc := 59) (v := 1) hx hb (tb_at tk_X8_hours 39 rfl) (by decide) ?_
                  refine lv_goto (pc := 60) (tgt := 64) hx hb (tb_at tk_X8_hours 40 rfl) (by decide) ?_
                  exact w64 1 _ _ _ h hW hS (lv_sub hl [0, 1, 2, 3] rfl)
        exact w26 N y2_l12 (upd z_made_l12 (y2_l12).toNatClampNeg 0) _ _ _ h hW hS (lv_sub hl [1, 2, 3, 0] rfl)
  exact w12 N 0 z_made _ _ _ h hW hS (lv_sub hl [2, 1, 0] rfl)
def f_X8_join_e73 {ρ : Type} (x1 : Int32) (z_made : Nat → Int32) (z_st : Nat → Int32) (k : Int32 → (Nat → Int32) → Option ρ) (N : Nat) (y2_e73 : Int32) : Option ρ := if x1 = 0 then (k y2_e73 z_made) else (f_X8_sumOf N z_st y2_e73 (fun r85 => k ((60 : Int32) - r85) z_made))
def f_X8_join_j65 {ρ : Type} (y2_l25 : Int32) (y3_l25 : Int32) (kb25 : Int32 → Int32 → Option ρ) : Option ρ := kb25 y2_l25 (y3_l25 + 1)
def f_X8_join_l25 {ρ : Type} (z_st : Nat → Int32) (k73 : Int32 → Option ρ) (N : Nat) : Nat → Int32 → Int32 → Option ρ
  | 0, _, _ => none
  | n25 + 1, y2_l25, y3_l25 => ck (ivi (13 : Int32) 25) (if ((1 : Int32) <<< ((z_st ((13 : Int32)).toNatClampNeg) &&& 31)) ≤ y3_l25 then (k73 y2_l25) else (f_X8_sumOf N z_st y3_l25 (fun r40 => if 60 < r40 then (f_X8_join_j65 y2_l25 y3_l25 (f_X8_join_l25 z_st k73 N n25) ) else (f_X8_sumOf N z_st y3_l25 (fun r50 => f_X8_sumOf N z_st y2_l25 (fun r55 => if r50 ≤ r55 then (f_X8_join_j65 y2_l25 y3_l25 (f_X8_join_l25 z_st k73 N n25) ) else ((f_X8_join_l25 z_st k73 N n25) y3_l25 (y3_l25 + 1))))))))
def f_X8_join {ρ : Type} (N : Nat) (z_st : Nat → Int32) (z_made : Nat → Int32) (x1 : Int32) (k : Int32 → (Nat → Int32) → Option ρ) : Option ρ := f_X8_in N x1 0 2 (fun r3 => if r3 = 0 then (k (-1) z_made) else (if x1 = 2 then (f_X8_hours N z_st z_made (fun r17 z_made_17 => k r17 z_made_17)) else (f_X8_join_l25 z_st (fun y2_e73 => f_X8_join_e73 x1 z_made z_st k N y2_e73) N N 0 0)))
abbrev w_X8_join (cI cZ cQ cW : ClassId) (z_o : Nat) (z_weight_a : Nat) (z_wants_a : Nat) (z_wantsMany_a : Nat) (z_st_a : Nat) (z_was_a : Nat) (z_images_a : Nat) (z_isKept_a : Nat) (z_told_a : Nat) (z_text_a : Nat) (z_saidWeight_a : Nat) (z_saidNights_a : Nat) (z_saidWants_a : Nat) (z_saidMany_a : Nat) (z_now_a : Nat) (z_gave_a : Nat) (z_at_a : Nat) (z_way_a : Nat) (z_bestWay_a : Nat) (z_made_a : Nat) (z_people : Int32) (z_known : Int32) (z_toldMany : Int32) (z_trace : Int64) (z_texted : Int32) (z_cursor : Int32) (z_start : Int32) (z_token : Int32) (z_number : Int32) (z_isWrong : Int32) (z_items : Int32) (z_saidPeople : Int32) (z_saidLaw : Int32) (z_ringed : Int32) (z_lumps : Int32) (z_st : Nat → Int32) (z_made : Nat → Int32) : va_W := [(z_o, .inr (8, [.int z_people, .ref z_weight_a, .ref z_wants_a, .ref z_wantsMany_a, .ref z_st_a, .ref z_was_a, .int z_known, .ref z_images_a, .ref z_isKept_a, .int z_toldMany, .ref z_told_a, .long z_trace, .ref z_text_a, .int z_texted, .int z_cursor, .int z_start, .int z_token, .int z_number, .int z_isWrong, .int z_items, .int z_saidPeople, .ref z_saidWeight_a, .ref z_saidNights_a, .ref z_saidWants_a, .ref z_saidMany_a, .int z_saidLaw, .ref z_now_a, .ref z_gave_a, .ref z_at_a, .int z_ringed, .int z_lumps, .ref z_way_a, .ref z_bestWay_a, .ref z_made_a])), (z_st_a, .inl (cI, 25, .inl z_st)), (z_made_a, .inl (cI, 256, .inl z_made))]
abbrev rm_X8_join : Room := { frames := 3, cells := 0, slots := 0, locals := 68 }
set_option maxHeartbeats 4000000 in
set_option maxRecDepth 100000 in
theorem c_X8_join (l : Launch) (dC : Nat → ClassId) (dI : Nat → Nat → Nat) (cI cZ cQ cW : ClassId) (z_o : Nat) (z_weight_a : Nat) (z_wants_a : Nat) (z_wantsMany_a : Nat) (z_st_a : Nat) (z_was_a : Nat) (z_images_a : Nat) (z_isKept_a : Nat) (z_told_a : Nat) (z_text_a : Nat) (z_saidWeight_a : Nat) (z_saidNights_a : Nat) (z_saidWants_a : Nat) (z_saidMany_a : Nat) (z_now_a : Nat) (z_gave_a : Nat) (z_at_a : Nat) (z_way_a : Nat) (z_bestWay_a : Nat) (z_made_a : Nat) (z_people : Int32) (z_known : Int32) (z_toldMany : Int32) (z_trace : Int64) (z_texted : Int32) (z_cursor : Int32) (z_start : Int32) (z_token : Int32) (z_number : Int32) (z_isWrong : Int32) (z_items : Int32) (z_saidPeople : Int32) (z_saidLaw : Int32) (z_ringed : Int32) (z_lumps : Int32) (z_st : Nat → Int32) (z_made : Nat → Int32) (x1 : Int32) {ρ : Type} (N : Nat) (k : Int32 → (Nat → Int32) → Option ρ) (res : ρ) (h : f_X8_join N z_st z_made x1 k = some res) : Ci l yX8_join (WS yX8_join cX8_join 4 (some .int)) rm_X8_join (dC, dI) (tysG cI cZ cQ cW) E0 [.ref z_o, .int x1] (w_X8_join cI cZ cQ cW z_o z_weight_a z_wants_a z_wantsMany_a z_st_a z_was_a z_images_a z_isKept_a z_told_a z_text_a z_saidWeight_a z_saidNights_a z_saidWants_a z_saidMany_a z_now_a z_gave_a z_at_a z_way_a z_bestWay_a z_made_a z_people z_known z_toldMany z_trace z_texted z_cursor z_start z_token z_number z_isWrong z_items z_saidPeople z_saidLaw z_ringed z_lumps z_st z_made) (fun (u : (Nat → Int32)) => (w_X8_join cI cZ cQ cW z_o z_weight_a z_wants_a z_wantsMany_a z_st_a z_was_a z_images_a z_isKept_a z_told_a z_text_a z_saidWeight_a z_saidNights_a z_saidWants_a z_saidMany_a z_now_a z_gave_a z_at_a z_way_a z_bestWay_a z_made_a z_people z_known z_toldMany z_trace z_texted z_cursor z_start z_token z_number z_isWrong z_items z_saidPeople z_saidLaw z_ringed z_lumps z_st u)) (fun r u => k r u = some res) := by
  refine Ci.of (cc := cX8_join) (n := 4) (by decide +kernel) (Nat.le_of_ble_eq_true rfl) ?_
  intro p e s m args below meth c A ls Q B hW hE hS hl hQ
  have hx := B.1
  have hb := B.2.1
  have hl : lv_has ls 4 [(0, .ref z_o), (1, .int x1)] := hl
  unfold f_X8_join at h
  refine lv_iload_n (pc := 0) hx hb (tb_at tk_X8_join 0 rfl) rfl (lv_at hl 1 rfl) ?_
  refine lv_iconst (pc := 1) (v := 0) hx hb (tb_at tk_X8_join 1 rfl) (by decide) ?_
  refine lv_iconst (pc := 2) (v := 2) hx hb (tb_at tk_X8_join 2 rfl) (by decide) ?_
  refine k_call0 (pc := 3) B (k_runSi (rest := []) (host := "") B (c_X8_in l dC dI cI cZ cQ cW   x1 0 2 N _ res h) E0_st (fun _ _ _ => trivial) q_c_X8_in q_m_X8_72 q_t_X8_in q_n_X8 hd_X8_in ⟨rfl, rfl⟩ ⟨Nat.le_of_ble_eq_true rfl, Nat.le_of_ble_eq_true rfl⟩ hW [] rfl (by decide +kernel) rfl hl.1 rfl (Nat.le_of_ble_eq_true rfl) (tb_at tk_X8_join 3 rfl) ⟨Nat.zero_le _, Nat.zero_le _⟩) hW hS (fun r3 u H locs h hW hS => ?_)
  refine lv_if_ne (pc := 6) (tgt := 11) hx hb (tb_at tk_X8_join 4 rfl) (by decide) (fun cc => ?_) (fun cc => ?_)
  · have h := it_f cc h
    refine lv_iload_n (pc := 11) hx hb (tb_at tk_X8_join 7 rfl) rfl (lv_at hl 1 rfl) ?_
    refine lv_iconst (pc := 12) (v := 2) hx hb (tb_at tk_X8_join 8 rfl) (by decide) ?_
    refine lv_icmp_ne (pc := 13) (tgt := 21) hx hb (tb_at tk_X8_join 9 rfl) (by decide) (fun cc => ?_) (fun cc => ?_)
    · have h := it_f cc h
      refine lv_iconst (pc := 21) (v := 0) hx hb (tb_at tk_X8_join 13 rfl) (by decide) ?_
      refine lv_istore_n (pc := 22) (lv' := [(2, .int 0), (0, .ref z_o), (1, .int x1)]) hx hb (tb_at tk_X8_join 14 rfl) rfl hl (by decide) rfl (fun ls hl => ?_)
      refine lv_iconst (pc := 23) (v := 0) hx hb (tb_at tk_X8_join 15 rfl) (by decide) ?_
      refine lv_istore_n (pc := 24) (lv' := [(3, .int 0), (2, .int 0), (0, .ref z_o), (1, .int x1)]) hx hb (tb_at tk_X8_join 16 rfl) rfl hl (by decide) rfl (fun ls hl => ?_)
      have w73 : ∀ (y2_e73 : Int32) (H : Heap) (locs : List Loc) (ls : Array Slot), f_X8_join_e73 x1 z_made z_st k N y2_e73 = some res → PD (dC, dI) A (w_X8_join cI cZ cQ cW z_o z_weight_a z_wants_a z_wantsMany_a z_st_a z_was_a z_images_a z_isKept_a z_told_a z_text_a z_saidWeight_a z_saidNights_a z_saidWants_a z_saidMany_a z_now_a z_gave_a z_at_a z_way_a z_bestWay_a z_made_a z_people z_known z_toldMany z_trace z_texted z_cursor z_start z_token z_number z_isWrong z_items z_saidPeople z_saidLaw z_ringed z_lumps z_st z_made) H → va_S A s.heap H locs → lv_has ls 4 [(0, .ref z_o), (1, .int x1), (2, .int y2_e73)] → W p l e rm_X8_join s m args below meth c H locs 0 0 Q (F0 m 73 ls []) := by
        intro y2_e73 H locs ls h hW hS hl
        unfold f_X8_join_e73 at h
        refine lv_iload_n (pc := 73) hx hb (tb_at tk_X8_join 43 rfl) rfl (lv_at hl 1 rfl) ?_
        refine lv_if_ne (pc := 74) (tgt := 81) hx hb (tb_at tk_X8_join 44 rfl) (by decide) (fun cc => ?_) (fun cc => ?_)
        · have h := it_f cc h
          refine lv_bipush (pc := 81) (v := 60) hx hb (tb_at tk_X8_join 47 rfl) (by decide) ?_
          refine lv_aload_n (pc := 83) hx hb (tb_at tk_X8_join 48 rfl) rfl (lv_at hl 0 rfl) ?_
          refine lv_iload_n (pc := 84) hx hb (tb_at tk_X8_join 49 rfl) rfl (lv_at hl 2 rfl) ?_
          refine k_calli (pc := 85) B (k_runVi (rest := [.int 60]) (C := RX8) B (c_X8_sumOf l dC dI cI cZ cQ cW z_o z_weight_a z_wants_a z_wantsMany_a z_st_a z_was_a z_images_a z_isKept_a z_told_a z_text_a z_saidWeight_a z_saidNights_a z_saidWants_a z_saidMany_a z_now_a z_gave_a z_at_a z_way_a z_bestWay_a z_made_a z_people z_known z_toldMany z_trace z_texted z_cursor z_start z_token z_number z_isWrong z_items z_saidPeople z_saidLaw z_ringed z_lumps z_st y2_e73 N _ res h) E0_st (fun _ _ _ => trivial) q_c_X8_sumOf q_m_X8_188 q_i_X8_sumOf q_s_X8_sumOf q_n_X8 hd_X8_sumOf ⟨rfl, rfl⟩ ⟨Nat.le_of_ble_eq_true rfl, Nat.le_of_ble_eq_true rfl⟩ hW [0, 1] rfl (by decide +kernel) (q0 := 0) (ci := 8) rfl rfl rfl hl.1 rfl (Nat.le_of_ble_eq_true rfl) (tb_at tk_X8_join 50 rfl) ⟨Nat.zero_le _, Nat.zero_le _⟩) hW hS [0, 1] rfl [z_o, z_st_a] rfl (fun _ => rfl) [some 0, some 1, none] (by decide +kernel) (fun _ => (w_X8_join cI cZ cQ cW z_o z_weight_a z_wants_a z_wantsMany_a z_st_a z_was_a z_images_a z_isKept_a z_told_a z_text_a z_saidWeight_a z_saidNights_a z_saidWants_a z_saidMany_a z_now_a z_gave_a z_at_a z_way_a z_bestWay_a z_made_a z_people z_known z_toldMany z_trace z_texted z_cursor z_start z_token z_number z_isWrong z_items z_saidPeople z_saidLaw z_ringed z_lumps z_st z_made)) (fun _ => rfl) (fun r85 u H locs h hW hS => ?_)
          have hW : PD (dC, dI) A (w_X8_join cI cZ cQ cW z_o z_weight_a z_wants_a z_wantsMany_a z_st_a z_was_a z_images_a z_isKept_a z_told_a z_text_a z_saidWeight_a z_saidNights_a z_saidWants_a z_saidMany_a z_now_a z_gave_a z_at_a z_way_a z_bestWay_a z_made_a z_people z_known z_toldMany z_trace z_texted z_cursor z_start z_token z_number z_isWrong z_items z_saidPeople z_saidLaw z_ringed z_lumps z_st z_made) H := hW
          refine lv_isub (pc := 88) hx hb (tb_at tk_X8_join 51 rfl) ?_
          exact hQ ((60 : Int32) - r85) (z_made) _ _ _ 89 rfl h hW hS (tb_at tk_X8_join 52 rfl)
        · have h := it_t cc h
          refine lv_iload_n (pc := 77) hx hb (tb_at tk_X8_join 45 rfl) rfl (lv_at hl 2 rfl) ?_
          refine lv_goto (pc := 78) (tgt := 89) hx hb (tb_at tk_X8_join 46 rfl) (by decide) ?_
          exact hQ y2_e73 (z_made) _ _ _ 89 rfl h hW hS (tb_at tk_X8_join 52 rfl)
      have w25 : ∀ (n : Nat), ∀ (y2_l25 : Int32) (y3_l25 : Int32) (H : Heap) (locs : List Loc) (ls : Array Slot), f_X8_join_l25 z_st (fun y2_e73 => f_X8_join_e73 x1 z_made z_st k N y2_e73) N n y2_l25 y3_l25 = some res → PD (dC, dI) A (w_X8_join cI cZ cQ cW z_o z_weight_a z_wants_a z_wantsMany_a z_st_a z_was_a z_images_a z_isKept_a z_told_a z_text_a z_saidWeight_a z_saidNights_a z_saidWants_a z_saidMany_a z_now_a z_gave_a z_at_a z_way_a z_bestWay_a z_made_a z_people z_known z_toldMany z_trace z_texted z_cursor z_start z_token z_number z_isWrong z_items z_saidPeople z_saidLaw z_ringed z_lumps z_st z_made) H → va_S A s.heap H locs → lv_has ls 4 [(0, .ref z_o), (1, .int x1), (2, .int y2_l25), (3, .int y3_l25)] → W p l e rm_X8_join s m args below meth c H locs 0 0 Q (F0 m 25 ls []) := by
        intro n
        induction n with
        | zero => intro y2_l25 y3_l25 H locs ls h; exact no_n h
        | succ n25 ih25 =>
          intro y2_l25 y3_l25 H locs ls h hW hS hl
          rw [f_X8_join_l25] at h
          refine lv_iload_n (pc := 25) hx hb (tb_at tk_X8_join 17 rfl) rfl (lv_at hl 3 rfl) ?_
          refine lv_iconst (pc := 26) (v := 1) hx hb (tb_at tk_X8_join 18 rfl) (by decide) ?_
          refine lv_aload_n (pc := 27) hx hb (tb_at tk_X8_join 19 rfl) rfl (lv_at hl 0 rfl) ?_
          refine k_get (pc := 28) (v := .ref z_st_a) (T := TX8) B inG8 hW 0 rfl rfl 4 (by decide) q_f_X8_19 rfl rfl (tb_at tk_X8_join 20 rfl) ?_
          refine lv_bipush (pc := 31) (v := 13) hx hb (tb_at tk_X8_join 21 rfl) (by decide) ?_
          have ii := ivi_in (ck_l h)
          have h := ck_r h
          refine k_iald (pc := 33) B hW 1 0 rfl rfl ii (tb_at tk_X8_join 22 rfl) ?_
          refine lv_ishl (pc := 34) hx hb (tb_at tk_X8_join 23 rfl) ?_
          refine lv_icmp_ge (pc := 35) (tgt := 73) hx hb (tb_at tk_X8_join 24 rfl) (by decide) (fun cc => ?_) (fun cc => ?_)
          · have h := it_t cc h
            exact w73 y2_l25 _ _ _ h hW hS (lv_sub hl [0, 1, 2] rfl)
          · have h := it_f cc h
            refine lv_aload_n (pc := 38) hx hb (tb_at tk_X8_join 25 rfl) rfl (lv_at hl 0 rfl) ?_
            refine lv_iload_n (pc := 39) hx hb (tb_at tk_X8_join 26 rfl) rfl (lv_at hl 3 rfl) ?_
            refine k_calli (pc := 40) B (k_runVi (rest := []) (C := RX8) B (c_X8_sumOf l dC dI cI cZ cQ cW z_o z_weight_a z_wants_a z_wantsMany_a z_st_a z_was_a z_images_a z_isKept_a z_told_a z_text_a z_saidWeight_a z_saidNights_a z_saidWants_a z_saidMany_a z_now_a z_gave_a z_at_a z_way_a z_bestWay_a z_made_a z_people z_known z_toldMany z_trace z_texted z_cursor z_start z_token z_number z_isWrong z_items z_saidPeople z_saidLaw z_ringed z_lumps z_st y3_l25 N _ res h) E0_st (fun _ _ _ => trivial) q_c_X8_sumOf q_m_X8_188 q_i_X8_sumOf q_s_X8_sumOf q_n_X8 hd_X8_sumOf ⟨rfl, rfl⟩ ⟨Nat.le_of_ble_eq_true rfl, Nat.le_of_ble_eq_true rfl⟩ hW [0, 1] rfl (by decide +kernel) (q0 := 0) (ci := 8) rfl rfl rfl hl.1 rfl (Nat.le_of_ble_eq_true rfl) (tb_at tk_X8_join 27 rfl) ⟨Nat.zero_le _, Nat.zero_le _⟩) hW hS [0, 1] rfl [z_o, z_st_a] rfl (fun _ => rfl) [some 0, some 1, none] (by decide +kernel) (fun _ => (w_X8_join cI cZ cQ cW z_o z_weight_a z_wants_a z_wantsMany_a z_st_a z_was_a z_images_a z_isKept_a z_told_a z_text_a z_saidWeight_a z_saidNights_a z_saidWants_a z_saidMany_a z_now_a z_gave_a z_at_a z_way_a z_bestWay_a z_made_a z_people z_known z_toldMany z_trace z_texted z_cursor z_start z_token z_number z_isWrong z_items z_saidPeople z_saidLaw z_ringed z_lumps z_st z_made)) (fun _ => rfl) (fun r40 u H locs h hW hS => ?_)
            have hW : PD (dC, dI) A (w_X8_join cI cZ cQ cW z_o z_weight_a z_wants_a z_wantsMany_a z_st_a z_was_a z_images_a z_isKept_a z_told_a z_text_a z_saidWeight_a z_saidNights_a z_saidWants_a z_saidMany_a z_now_a z_gave_a z_at_a z_way_a z_bestWay_a z_made_a z_people z_known z_toldMany z_trace z_texted z_cursor z_start z_token z_number z_isWrong z_items z_saidPeople z_saidLaw z_ringed z_lumps z_st z_made) H := hW
            refine lv_bipush (pc := 43) (v := 60) hx hb (tb_at tk_X8_join 28 rfl) (by decide) ?_
            have w65 : ∀ (H : Heap) (locs : List Loc) (ls : Array Slot), f_X8_join_j65 y2_l25 y3_l25 (f_X8_join_l25 z_st (fun y2_e73 => f_X8_join_e73 x1 z_made z_st k N y2_e73) N n25) = some res → PD (dC, dI) A (w_X8_join cI cZ cQ cW z_o z_weight_a z_wants_a z_wantsMany_a z_st_a z_was_a z_images_a z_isKept_a z_told_a z_text_a z_saidWeight_a z_saidNights_a z_saidWants_a z_saidMany_a z_now_a z_gave_a z_at_a z_way_a z_bestWay_a z_made_a z_people z_known z_toldMany z_trace z_texted z_cursor z_start z_token z_number z_isWrong z_items z_saidPeople z_saidLaw z_ringed z_lumps z_st z_made) H → va_S A s.heap H locs → lv_has ls 4 [(0, .ref z_o), (1, .int x1), (2, .int y2_l25), (3, .int y3_l25)] → W p l e rm_X8_join s m args below meth c H locs 0 0 Q (F0 m 65 ls []) := by
              intro H locs ls h hW hS hl
              unfold f_X8_join_j65 at h
              refine lv_iload_n (pc := 65) hx hb (tb_at tk_X8_join 39 rfl) rfl (lv_at hl 2 rfl) ?_
              refine lv_istore_n (pc := 66) (lv' := [(2, .int y2_l25), (0, .ref z_o), (1, .int x1), (3, .int y3_l25)]) hx hb (tb_at tk_X8_join 40 rfl) rfl hl (by decide) rfl (fun ls hl => ?_)
              refine lv_iinc (pc := 67) (v := y3_l25 + 1) (lv' := [(3, .int (y3_l25 + 1)), (2, .int y2_l25), (0, .ref z_o), (1, .int x1)]) hx hb (tb_at tk_X8_join 41 rfl) hl (k := 3) rfl rfl (by decide) rfl (fun ls hl => ?_)
              refine lv_goto (pc := 70) (tgt := 25) hx hb (tb_at tk_X8_join 42 rfl) (by decide) ?_
              exact ih25 y2_l25 (y3_l25 + 1) _ _ _ h hW hS (lv_sub hl [2, 3, 1, 0] rfl)
            refine lv_icmp_gt (pc := 45) (tgt := 65) hx hb (tb_at tk_X8_join 29 rfl) (by decide) (fun cc => ?_) (fun cc => ?_)
            · have h := it_t cc h
              exact w65  _ _ _ h hW hS (lv_sub hl [0, 1, 2, 3] rfl)
            · have h := it_f cc h
              refine lv_aload_n (pc := 48) hx hb (tb_at tk_X8_join 30 rfl) rfl (lv_at hl 0 rfl) ?_
              refine lv_iload_n (pc := 49) hx hb (tb_at tk_X8_join 31 rfl) rfl (lv_at hl 3 rfl) ?_
              refine k_calli (pc := 50) B (k_runVi (rest := []) (C := RX8) B (c_X8_sumOf l dC dI cI cZ cQ cW z_o z_weight_a z_wants_a z_wantsMany_a z_st_a z_was_a z_images_a z_isKept_a z_told_a z_text_a z_saidWeight_a z_saidNights_a z_saidWants_a z_saidMany_a z_now_a z_gave_a z_at_a z_way_a z_bestWay_a z_made_a z_people z_known z_toldMany z_trace z_texted z_cursor z_start z_token z_number z_isWrong z_items z_saidPeople z_saidLaw z_ringed z_lumps z_st y3_l25 N _ res h) E0_st (fun _ _ _ => trivial) q_c_X8_sumOf q_m_X8_188 q_i_X8_sumOf q_s_X8_sumOf q_n_X8 hd_X8_sumOf ⟨rfl, rfl⟩ ⟨Nat.le_of_ble_eq_true rfl, Nat.le_of_ble_eq_true rfl⟩ hW [0, 1] rfl (by decide +kernel) (q0 := 0) (ci := 8) rfl rfl rfl hl.1 rfl (Nat.le_of_ble_eq_true rfl) (tb_at tk_X8_join 32 rfl) ⟨Nat.zero_le _, Nat.zero_le _⟩) hW hS [0, 1] rfl [z_o, z_st_a] rfl (fun _ => rfl) [some 0, some 1, none] (by decide +kernel) (fun _ => (w_X8_join cI cZ cQ cW z_o z_weight_a z_wants_a z_wantsMany_a z_st_a z_was_a z_images_a z_isKept_a z_told_a z_text_a z_saidWeight_a z_saidNights_a z_saidWants_a z_saidMany_a z_now_a z_gave_a z_at_a z_way_a z_bestWay_a z_made_a z_people z_known z_toldMany z_trace z_texted z_cursor z_start z_token z_number z_isWrong z_items z_saidPeople z_saidLaw z_ringed z_lumps z_st z_made)) (fun _ => rfl) (fun r50 u H locs h hW hS => ?_)
              have hW : PD (dC, dI) A (w_X8_join cI cZ cQ cW z_o z_weight_a z_wants_a z_wantsMany_a z_st_a z_was_a z_images_a z_isKept_a z_told_a z_text_a z_saidWeight_a z_saidNights_a z_saidWants_a z_saidMany_a z_now_a z_gave_a z_at_a z_way_a z_bestWay_a z_made_a z_people z_known z_toldMany z_trace z_texted z_cursor z_start z_token z_number z_isWrong z_items z_saidPeople z_saidLaw z_ringed z_lumps z_st z_made) H := hW
              refine lv_aload_n (pc := 53) hx hb (tb_at tk_X8_join 33 rfl) rfl (lv_at hl 0 rfl) ?_
              refine lv_iload_n (pc := 54) hx hb (tb_at tk_X8_join 34 rfl) rfl (lv_at hl 2 rfl) ?_
              refine k_calli (pc := 55) B (k_runVi (rest := [.int r50]) (C := RX8) B (c_X8_sumOf l dC dI cI cZ cQ cW z_o z_weight_a z_wants_a z_wantsMany_a z_st_a z_was_a z_images_a z_isKept_a z_told_a z_text_a z_saidWeight_a z_saidNights_a z_saidWants_a z_saidMany_a z_now_a z_gave_a z_at_a z_way_a z_bestWay_a z_made_a z_people z_known z_toldMany z_trace z_texted z_cursor z_start z_token z_number z_isWrong z_items z_saidPeople z_saidLaw z_ringed z_lumps z_st y2_l25 N _ res h) E0_st (fun _ _ _ => trivial) q_c_X8_sumOf q_m_X8_188 q_i_X8_sumOf q_s_X8_sumOf q_n_X8 hd_X8_sumOf ⟨rfl, rfl⟩ ⟨Nat.le_of_ble_eq_true rfl, Nat.le_of_ble_eq_true rfl⟩ hW [0, 1] rfl (by decide +kernel) (q0 := 0) (ci := 8) rfl rfl rfl hl.1 rfl (Nat.le_of_ble_eq_true rfl) (tb_at tk_X8_join 35 rfl) ⟨Nat.zero_le _, Nat.zero_le _⟩) hW hS [0, 1] rfl [z_o, z_st_a] rfl (fun _ => rfl) [some 0, some 1, none] (by decide +kernel) (fun _ => (w_X8_join cI cZ cQ cW z_o z_weight_a z_wants_a z_wantsMany_a z_st_a z_was_a z_images_a z_isKept_a z_told_a z_text_a z_saidWeight_a z_saidNights_a z_saidWants_a z_saidMany_a z_now_a z_gave_a z_at_a z_way_a z_bestWay_a z_made_a z_people z_known z_toldMany z_trace z_texted z_cursor z_start z_token z_number z_isWrong z_items z_saidPeople z_saidLaw z_ringed z_lumps z_st z_made)) (fun _ => rfl) (fun r55 u H locs h hW hS => ?_)
              have hW : PD (dC, dI) A (w_X8_join cI cZ cQ cW z_o z_weight_a z_wants_a z_wantsMany_a z_st_a z_was_a z_images_a z_isKept_a z_told_a z_text_a z_saidWeight_a z_saidNights_a z_saidWants_a z_saidMany_a z_now_a z_gave_a z_at_a z_way_a z_bestWay_a z_made_a z_people z_known z_toldMany z_trace z_texted z_cursor z_start z_token z_number z_isWrong z_items z_saidPeople z_saidLaw z_ringed z_lumps z_st z_made) H := hW
              refine lv_icmp_le (pc := 58) (tgt := 65) hx hb (tb_at tk_X8_join 36 rfl) (by decide) (fun cc => ?_) (fun cc => ?_)
              · have h := it_t cc h
                exact w65  _ _ _ h hW hS (lv_sub hl [0, 1, 2, 3] rfl)
              · have h := it_f cc h
                refine lv_iload_n (pc := 61) hx hb (tb_at tk_X8_join 37 rfl) rfl (lv_at hl 3 rfl) ?_
                refine lv_goto (pc := 62) (tgt := 66) hx hb (tb_at tk_X8_join 38 rfl) (by decide) ?_
                refine lv_istore_n (pc := 66) (lv' := [(2, .int y3_l25), (0, .ref z_o), (1, .int x1), (3, .int y3_l25)]) hx hb (tb_at tk_X8_join 40 rfl) rfl hl (by decide) rfl (fun ls hl => ?_)
                refine lv_iinc (pc := 67) (v := y3_l25 + 1) (lv' := [(3, .int (y3_l25 + 1)), (2, .int y3_l25), (0, .ref z_o), (1, .int x1)]) hx hb (tb_at tk_X8_join 41 rfl) hl (k := 3) rfl rfl (by decide) rfl (fun ls hl => ?_)
                refine lv_goto (pc := 70) (tgt := 25) hx hb (tb_at tk_X8_join 42 rfl) (by decide) ?_
                exact ih25 y3_l25 (y3_l25 + 1) _ _ _ h hW hS (lv_sub hl [2, 3, 1, 0] rfl)
      exact w25 N 0 0 _ _ _ h hW hS (lv_sub hl [2, 3, 1, 0] rfl)
    · have h := it_t cc h
      refine lv_aload_n (pc := 16) hx hb (tb_at tk_X8_join 10 rfl) rfl (lv_at hl 0 rfl) ?_
      refine k_calli (pc := 17) B (k_runVi (rest := []) (C := RX8) B (c_X8_hours l dC dI cI cZ cQ cW z_o z_weight_a z_wants_a z_wantsMany_a z_st_a z_was_a z_images_a z_isKept_a z_told_a z_text_a z_saidWeight_a z_saidNights_a z_saidWants_a z_saidMany_a z_now_a z_gave_a z_at_a z_way_a z_bestWay_a z_made_a z_people z_known z_toldMany z_trace z_texted z_cursor z_start z_token z_number z_isWrong z_items z_saidPeople z_saidLaw z_ringed z_lumps z_st z_made  N _ res h) E0_st (fun _ _ _ => trivial) q_c_X8_hours q_m_X8_203 q_i_X8_hours q_s_X8_hours q_n_X8 hd_X8_hours ⟨rfl, rfl⟩ ⟨Nat.le_of_ble_eq_true rfl, Nat.le_of_ble_eq_true rfl⟩ hW [0, 1, 2] rfl (by decide +kernel) (q0 := 0) (ci := 8) rfl rfl rfl hl.1 rfl (Nat.le_of_ble_eq_true rfl) (tb_at tk_X8_join 11 rfl) ⟨Nat.zero_le _, Nat.zero_le _⟩) hW hS [0, 1, 2] rfl [z_o, z_st_a, z_made_a] rfl (fun _ => rfl) [some 0, some 1, some 2] (by decide +kernel) (fun u => (w_X8_join cI cZ cQ cW z_o z_weight_a z_wants_a z_wantsMany_a z_st_a z_was_a z_images_a z_isKept_a z_told_a z_text_a z_saidWeight_a z_saidNights_a z_saidWants_a z_saidMany_a z_now_a z_gave_a z_at_a z_way_a z_bestWay_a z_made_a z_people z_known z_toldMany z_trace z_texted z_cursor z_start z_token z_number z_isWrong z_items z_saidPeople z_saidLaw z_ringed z_lumps z_st u)) (fun _ => rfl) (fun r17 u H locs h hW hS => ?_)
      obtain ⟨z_made_17, rfl⟩ : ∃ z9, z9 = u := ⟨_, rfl⟩
      have hW : PD (dC, dI) A (w_X8_join cI cZ cQ cW z_o z_weight_a z_wants_a z_wantsMany_a z_st_a z_was_a z_images_a z_isKept_a z_told_a z_text_a z_saidWeight_a z_saidNights_a z_saidWants_a z_saidMany_a z_now_a z_gave_a z_at_a z_way_a z_bestWay_a z_made_a z_people z_known z_toldMany z_trace z_texted z_cursor z_start z_token z_number z_isWrong z_items z_saidPeople z_saidLaw z_ringed z_lumps z_st z_made_17) H := hW
      exact hQ r17 (z_made_17) _ _ _ 20 rfl h hW hS (tb_at tk_X8_join 12 rfl)
  · have h := it_t cc h
    refine lv_iconst (pc := 9) (v := (-1)) hx hb (tb_at tk_X8_join 5 rfl) (by decide) ?_
    exact hQ (-1) (z_made) _ _ _ 10 rfl h hW hS (tb_at tk_X8_join 6 rfl)
def f_X8_tells {ρ : Type} (N : Nat) (z_people : Int32) (z_toldMany : Int32) (z_told : Nat → Int32) (x1 : Int32) (x2 : Int32) (x3 : Int32) (k : Int32 → Int32 → (Nat → Int32) → Option ρ) : Option ρ := f_X8_all N z_people (fun r3 => f_X8_in N x1 1 r3 (fun r6 => if r6 = 0 then (k (-1) z_toldMany z_told) else (f_X8_isPerson N z_people x2 (fun r14 => if r14 = 0 then (k (-1) z_toldMany z_told) else (f_X8_isPerson N z_people x3 (fun r22 => if r22 = 0 then (k (-1) z_toldMany z_told) else (f_X8_has N x1 x2 (fun r30 => if r30 = 0 then (k (-1) z_toldMany z_told) else (f_X8_has N x1 x3 (fun r38 => if r38 = 0 then (k (-1) z_toldMany z_told) else (if z_toldMany = 6 then (k (-3) z_toldMany z_told) else (ck (ivi ((3 : Int32) * z_toldMany) 18) (ck (ivi (((3 : Int32) * z_toldMany) + 1) 18) (ck (ivi (((3 : Int32) * z_toldMany) + 2) 18) (k (z_toldMany + 1) (z_toldMany + 1) (upd (upd (upd z_told ((3 : Int32) * z_toldMany).toNatClampNeg x1) (((3 : Int32) * z_toldMany) + 1).toNatClampNeg x2) (((3 : Int32) * z_toldMany) + 2).toNatClampNeg x3))))))))))))))))
abbrev w_X8_tells (cI cZ cQ cW : ClassId) (z_o : Nat) (z_weight_a : Nat) (z_wants_a : Nat) (z_wantsMany_a : Nat) (z_st_a : Nat) (z_was_a : Nat) (z_images_a : Nat) (z_isKept_a : Nat) (z_told_a : Nat) (z_text_a : Nat) (z_saidWeight_a : Nat) (z_saidNights_a : Nat) (z_saidWants_a : Nat) (z_saidMany_a : Nat) (z_now_a : Nat) (z_gave_a : Nat) (z_at_a : Nat) (z_way_a : Nat) (z_bestWay_a : Nat) (z_made_a : Nat) (z_people : Int32) (z_known : Int32) (z_toldMany : Int32) (z_trace : Int64) (z_texted : Int32) (z_cursor : Int32) (z_start : Int32) (z_token : Int32) (z_number : Int32) (z_isWrong : Int32) (z_items : Int32) (z_saidPeople : Int32) (z_saidLaw : Int32) (z_ringed : Int32) (z_lumps : Int32) (z_told : Nat → Int32) : va_W := [(z_o, .inr (8, [.int z_people, .ref z_weight_a, .ref z_wants_a, .ref z_wantsMany_a, .ref z_st_a, .ref z_was_a, .int z_known, .ref z_images_a, .ref z_isKept_a, .int z_toldMany, .ref z_told_a, .long z_trace, .ref z_text_a, .int z_texted, .int z_cursor, .int z_start, .int z_token, .int z_number, .int z_isWrong, .int z_items, .int z_saidPeople, .ref z_saidWeight_a, .ref z_saidNights_a, .ref z_saidWants_a, .ref z_saidMany_a, .int z_saidLaw, .ref z_now_a, .ref z_gave_a, .ref z_at_a, .int z_ringed, .int z_lumps, .ref z_way_a, .ref z_bestWay_a, .ref z_made_a])), (z_told_a, .inl (cI, 18, .inl z_told))]
abbrev rm_X8_tells : Room := { frames := 2, cells := 0, slots := 0, locals := 43 }
set_option maxHeartbeats 4000000 in
set_option maxRecDepth 100000 in
theorem c_X8_tells (l : Launch) (dC : Nat → ClassId) (dI : Nat → Nat → Nat) (cI cZ cQ cW : ClassId) (z_o : Nat) (z_weight_a : Nat) (z_wants_a : Nat) (z_wantsMany_a : Nat) (z_st_a : Nat) (z_was_a : Nat) (z_images_a : Nat) (z_isKept_a : Nat) (z_told_a : Nat) (z_text_a : Nat) (z_saidWeight_a : Nat) (z_saidNights_a : Nat) (z_saidWants_a : Nat) (z_saidMany_a : Nat) (z_now_a : Nat) (z_gave_a : Nat) (z_at_a : Nat) (z_way_a : Nat) (z_bestWay_a : Nat) (z_made_a : Nat) (z_people : Int32) (z_known : Int32) (z_toldMany : Int32) (z_trace : Int64) (z_texted : Int32) (z_cursor : Int32) (z_start : Int32) (z_token : Int32) (z_number : Int32) (z_isWrong : Int32) (z_items : Int32) (z_saidPeople : Int32) (z_saidLaw : Int32) (z_ringed : Int32) (z_lumps : Int32) (z_told : Nat → Int32) (x1 : Int32) (x2 : Int32) (x3 : Int32) {ρ : Type} (N : Nat) (k : Int32 → Int32 → (Nat → Int32) → Option ρ) (res : ρ) (h : f_X8_tells N z_people z_toldMany z_told x1 x2 x3 k = some res) : Ci l yX8_tells (WS yX8_tells cX8_tells 4 (some .int)) rm_X8_tells (dC, dI) (tysG cI cZ cQ cW) E0 [.ref z_o, .int x1, .int x2, .int x3] (w_X8_tells cI cZ cQ cW z_o z_weight_a z_wants_a z_wantsMany_a z_st_a z_was_a z_images_a z_isKept_a z_told_a z_text_a z_saidWeight_a z_saidNights_a z_saidWants_a z_saidMany_a z_now_a z_gave_a z_at_a z_way_a z_bestWay_a z_made_a z_people z_known z_toldMany z_trace z_texted z_cursor z_start z_token z_number z_isWrong z_items z_saidPeople z_saidLaw z_ringed z_lumps z_told) (fun (u : Int32 × (Nat → Int32)) => (w_X8_tells cI cZ cQ cW z_o z_weight_a z_wants_a z_wantsMany_a z_st_a z_was_a z_images_a z_isKept_a z_told_a z_text_a z_saidWeight_a z_saidNights_a z_saidWants_a z_saidMany_a z_now_a z_gave_a z_at_a z_way_a z_bestWay_a z_made_a z_people z_known u.1 z_trace z_texted z_cursor z_start z_token z_number z_isWrong z_items z_saidPeople z_saidLaw z_ringed z_lumps u.2)) (fun r u => k r u.1 u.2 = some res) := by
  refine Ci.of (cc := cX8_tells) (n := 4) (by decide +kernel) (Nat.le_of_ble_eq_true rfl) ?_
  intro p e s m args below meth c A ls Q B hW hE hS hl hQ
  have hx := B.1
  have hb := B.2.1
  have hl : lv_has ls 4 [(0, .ref z_o), (1, .int x1), (2, .int x2), (3, .int x3)] := hl
  unfold f_X8_tells at h
  refine lv_iload_n (pc := 0) hx hb (tb_at tk_X8_tells 0 rfl) rfl (lv_at hl 1 rfl) ?_
  refine lv_iconst (pc := 1) (v := 1) hx hb (tb_at tk_X8_tells 1 rfl) (by decide) ?_
  refine lv_aload_n (pc := 2) hx hb (tb_at tk_X8_tells 2 rfl) rfl (lv_at hl 0 rfl) ?_
  refine k_calli (pc := 3) B (k_runVi (rest := [.int 1, .int x1]) (C := RX8) B (c_X8_all l dC dI cI cZ cQ cW z_o z_weight_a z_wants_a z_wantsMany_a z_st_a z_was_a z_images_a z_isKept_a z_told_a z_text_a z_saidWeight_a z_saidNights_a z_saidWants_a z_saidMany_a z_now_a z_gave_a z_at_a z_way_a z_bestWay_a z_made_a z_people z_known z_toldMany z_trace z_texted z_cursor z_start z_token z_number z_isWrong z_items z_saidPeople z_saidLaw z_ringed z_lumps  N _ res h) E0_st (fun _ _ _ => trivial) q_c_X8_all q_m_X8_191 q_i_X8_all q_s_X8_all q_n_X8 hd_X8_all ⟨rfl, rfl⟩ ⟨Nat.le_of_ble_eq_true rfl, Nat.le_of_ble_eq_true rfl⟩ hW [0] rfl (by decide +kernel) (q0 := 0) (ci := 8) rfl rfl rfl hl.1 rfl (Nat.le_of_ble_eq_true rfl) (tb_at tk_X8_tells 3 rfl) ⟨Nat.zero_le _, Nat.zero_le _⟩) hW hS [0] rfl [z_o] rfl (fun _ => rfl) [some 0, none] (by decide +kernel) (fun _ => (w_X8_tells cI cZ cQ cW z_o z_weight_a z_wants_a z_wantsMany_a z_st_a z_was_a z_images_a z_isKept_a z_told_a z_text_a z_saidWeight_a z_saidNights_a z_saidWants_a z_saidMany_a z_now_a z_gave_a z_at_a z_way_a z_bestWay_a z_made_a z_people z_known z_toldMany z_trace z_texted z_cursor z_start z_token z_number z_isWrong z_items z_saidPeople z_saidLaw z_ringed z_lumps z_told)) (fun _ => rfl) (fun r3 u H locs h hW hS => ?_)
  have hW : PD (dC, dI) A (w_X8_tells cI cZ cQ cW z_o z_weight_a z_wants_a z_wantsMany_a z_st_a z_was_a z_images_a z_isKept_a z_told_a z_text_a z_saidWeight_a z_saidNights_a z_saidWants_a z_saidMany_a z_now_a z_gave_a z_at_a z_way_a z_bestWay_a z_made_a z_people z_known z_toldMany z_trace z_texted z_cursor z_start z_token z_number z_isWrong z_items z_saidPeople z_saidLaw z_ringed z_lumps z_told) H := hW
  refine k_call0 (pc := 6) B (k_runSi (rest := []) (host := "") B (c_X8_in l dC dI cI cZ cQ cW   x1 1 r3 N _ res h) E0_st (fun _ _ _ => trivial) q_c_X8_in q_m_X8_72 q_t_X8_in q_n_X8 hd_X8_in ⟨rfl, rfl⟩ ⟨Nat.le_of_ble_eq_true rfl, Nat.le_of_ble_eq_true rfl⟩ hW [] rfl (by decide +kernel) rfl hl.1 rfl (Nat.le_of_ble_eq_true rfl) (tb_at tk_X8_tells 4 rfl) ⟨Nat.zero_le _, Nat.zero_le _⟩) hW hS (fun r6 u H locs h hW hS => ?_)
  refine lv_if_eq (pc := 9) (tgt := 44) hx hb (tb_at tk_X8_tells 5 rfl) (by decide) (fun cc => ?_) (fun cc => ?_)
  · have h := it_t cc h
    refine lv_iconst (pc := 44) (v := (-1)) hx hb (tb_at tk_X8_tells 22 rfl) (by decide) ?_
    exact hQ (-1) (z_toldMany, z_told) _ _ _ 45 rfl h hW hS (tb_at tk_X8_tells 23 rfl)
  · have h := it_f cc h
    refine lv_aload_n (pc := 12) hx hb (tb_at tk_X8_tells 6 rfl) rfl (lv_at hl 0 rfl) ?_
    refine lv_iload_n (pc := 13) hx hb (tb_at tk_X8_tells 7 rfl) rfl (lv_at hl 2 rfl) ?_
    refine k_calli (pc := 14) B (k_runVi (rest := []) (C := RX8) B (c_X8_isPerson l dC dI cI cZ cQ cW z_o z_weight_a z_wants_a z_wantsMany_a z_st_a z_was_a z_images_a z_isKept_a z_told_a z_text_a z_saidWeight_a z_saidNights_a z_saidWants_a z_saidMany_a z_now_a z_gave_a z_at_a z_way_a z_bestWay_a z_made_a z_people z_known z_toldMany z_trace z_texted z_cursor z_start z_token z_number z_isWrong z_items z_saidPeople z_saidLaw z_ringed z_lumps x2 N _ res h) E0_st (fun _ _ _ => trivial) q_c_X8_isPerson q_m_X8_168 q_i_X8_isPerson q_s_X8_isPerson q_n_X8 hd_X8_isPerson ⟨rfl, rfl⟩ ⟨Nat.le_of_ble_eq_true rfl, Nat.le_of_ble_eq_true rfl⟩ hW [0] rfl (by decide +kernel) (q0 := 0) (ci := 8) rfl rfl rfl hl.1 rfl (Nat.le_of_ble_eq_true rfl) (tb_at tk_X8_tells 8 rfl) ⟨Nat.zero_le _, Nat.zero_le _⟩) hW hS [0] rfl [z_o] rfl (fun _ => rfl) [some 0, none] (by decide +kernel) (fun _ => (w_X8_tells cI cZ cQ cW z_o z_weight_a z_wants_a z_wantsMany_a z_st_a z_was_a z_images_a z_isKept_a z_told_a z_text_a z_saidWeight_a z_saidNights_a z_saidWants_a z_saidMany_a z_now_a z_gave_a z_at_a z_way_a z_bestWay_a z_made_a z_people z_known z_toldMany z_trace z_texted z_cursor z_start z_token z_number z_isWrong z_items z_saidPeople z_saidLaw z_ringed z_lumps z_told)) (fun _ => rfl) (fun r14 u H locs h hW hS => ?_)
    have hW : PD (dC, dI) A (w_X8_tells cI cZ cQ cW z_o z_weight_a z_wants_a z_wantsMany_a z_st_a z_was_a z_images_a z_isKept_a z_told_a z_text_a z_saidWeight_a z_saidNights_a z_saidWants_a z_saidMany_a z_now_a z_gave_a z_at_a z_way_a z_bestWay_a z_made_a z_people z_known z_toldMany z_trace z_texted z_cursor z_start z_token z_number z_isWrong z_items z_saidPeople z_saidLaw z_ringed z_lumps z_told) H := hW
    refine lv_if_eq (pc := 17) (tgt := 44) hx hb (tb_at tk_X8_tells 9 rfl) (by decide) (fun cc => ?_) (fun cc => ?_)
    · have h := it_t cc h
      refine lv_iconst (pc := 44) (v := (-1)) hx hb (tb_at tk_X8_tells 22 rfl) (by decide) ?_
      exact hQ (-1) (z_toldMany, z_told) _ _ _ 45 rfl h hW hS (tb_at tk_X8_tells 23 rfl)
    · have h := it_f cc h
      refine lv_aload_n (pc := 20) hx hb (tb_at tk_X8_tells 10 rfl) rfl (lv_at hl 0 rfl) ?_
      refine lv_iload_n (pc := 21) hx hb (tb_at tk_X8_tells 11 rfl) rfl (lv_at hl 3 rfl) ?_
      refine k_calli (pc := 22) B (k_runVi (rest := []) (C := RX8) B (c_X8_isPerson l dC dI cI cZ cQ cW z_o z_weight_a z_wants_a z_wantsMany_a z_st_a z_was_a z_images_a z_isKept_a z_told_a z_text_a z_saidWeight_a z_saidNights_a z_saidWants_a z_saidMany_a z_now_a z_gave_a z_at_a z_way_a z_bestWay_a z_made_a z_people z_known z_toldMany z_trace z_texted z_cursor z_start z_token z_number z_isWrong z_items z_saidPeople z_saidLaw z_ringed z_lumps x3 N _ res h) E0_st (fun _ _ _ => trivial) q_c_X8_isPerson q_m_X8_168 q_i_X8_isPerson q_s_X8_isPerson q_n_X8 hd_X8_isPerson ⟨rfl, rfl⟩ ⟨Nat.le_of_ble_eq_true rfl, Nat.le_of_ble_eq_true rfl⟩ hW [0] rfl (by decide +kernel) (q0 := 0) (ci := 8) rfl rfl rfl hl.1 rfl (Nat.le_of_ble_eq_true rfl) (tb_at tk_X8_tells 12 rfl) ⟨Nat.zero_le _, Nat.zero_le _⟩) hW hS [0] rfl [z_o] rfl (fun _ => rfl) [some 0, none] (by decide +kernel) (fun _ => (w_X8_tells cI cZ cQ cW z_o z_weight_a z_wants_a z_wantsMany_a z_st_a z_was_a z_images_a z_isKept_a z_told_a z_text_a z_saidWeight_a z_saidNights_a z_saidWants_a z_saidMany_a z_now_a z_gave_a z_at_a z_way_a z_bestWay_a z_made_a z_people z_known z_toldMany z_trace z_texted z_cursor z_start z_token z_number z_isWrong z_items z_saidPeople z_saidLaw z_ringed z_lumps z_told)) (fun _ => rfl) (fun r22 u H locs h hW hS => ?_)
      have hW : PD (dC, dI) A (w_X8_tells cI cZ cQ cW z_o z_weight_a z_wants_a z_wantsMany_a z_st_a z_was_a z_images_a z_isKept_a z_told_a z_text_a z_saidWeight_a z_saidNights_a z_saidWants_a z_saidMany_a z_now_a z_gave_a z_at_a z_way_a z_bestWay_a z_made_a z_people z_known z_toldMany z_trace z_texted z_cursor z_start z_token z_number z_isWrong z_items z_saidPeople z_saidLaw z_ringed z_lumps z_told) H := hW
      refine lv_if_eq (pc := 25) (tgt := 44) hx hb (tb_at tk_X8_tells 13 rfl) (by decide) (fun cc => ?_) (fun cc => ?_)
      · have h := it_t cc h
        refine lv_iconst (pc := 44) (v := (-1)) hx hb (tb_at tk_X8_tells 22 rfl) (by decide) ?_
        exact hQ (-1) (z_toldMany, z_told) _ _ _ 45 rfl h hW hS (tb_at tk_X8_tells 23 rfl)
      · have h := it_f cc h
        refine lv_iload_n (pc := 28) hx hb (tb_at tk_X8_tells 14 rfl) rfl (lv_at hl 1 rfl) ?_
        refine lv_iload_n (pc := 29) hx hb (tb_at tk_X8_tells 15 rfl) rfl (lv_at hl 2 rfl) ?_
        refine k_call0 (pc := 30) B (k_runSi (rest := []) (host := "") B (c_X8_has l dC dI cI cZ cQ cW   x1 x2 N _ res h) E0_st (fun _ _ _ => trivial) q_c_X8_has q_m_X8_113 q_t_X8_has q_n_X8 hd_X8_has ⟨rfl, rfl⟩ ⟨Nat.le_of_ble_eq_true rfl, Nat.le_of_ble_eq_true rfl⟩ hW [] rfl (by decide +kernel) rfl hl.1 rfl (Nat.le_of_ble_eq_true rfl) (tb_at tk_X8_tells 16 rfl) ⟨Nat.zero_le _, Nat.zero_le _⟩) hW hS (fun r30 u H locs h hW hS => ?_)
        refine lv_if_eq (pc := 33) (tgt := 44) hx hb (tb_at tk_X8_tells 17 rfl) (by decide) (fun cc => ?_) (fun cc => ?_)
        · have h := it_t cc h
          refine lv_iconst (pc := 44) (v := (-1)) hx hb (tb_at tk_X8_tells 22 rfl) (by decide) ?_
          exact hQ (-1) (z_toldMany, z_told) _ _ _ 45 rfl h hW hS (tb_at tk_X8_tells 23 rfl)
        · have h := it_f cc h
          refine lv_iload_n (pc := 36) hx hb (tb_at tk_X8_tells 18 rfl) rfl (lv_at hl 1 rfl) ?_
          refine lv_iload_n (pc := 37) hx hb (tb_at tk_X8_tells 19 rfl) rfl (lv_at hl 3 rfl) ?_
          refine k_call0 (pc := 38) B (k_runSi (rest := []) (host := "") B (c_X8_has l dC dI cI cZ cQ cW   x1 x3 N _ res h) E0_st (fun _ _ _ => trivial) q_c_X8_has q_m_X8_113 q_t_X8_has q_n_X8 hd_X8_has ⟨rfl, rfl⟩ ⟨Nat.le_of_ble_eq_true rfl, Nat.le_of_ble_eq_true rfl⟩ hW [] rfl (by decide +kernel) rfl hl.1 rfl (Nat.le_of_ble_eq_true rfl) (tb_at tk_X8_tells 20 rfl) ⟨Nat.zero_le _, Nat.zero_le _⟩) hW hS (fun r38 u H locs h hW hS => ?_)
          refine lv_if_ne (pc := 41) (tgt := 46) hx hb (tb_at tk_X8_tells 21 rfl) (by decide) (fun cc => ?_) (fun cc => ?_)
          · have h := it_f cc h
            refine lv_aload_n (pc := 46) hx hb (tb_at tk_X8_tells 24 rfl) rfl (lv_at hl 0 rfl) ?_
            refine k_get (pc := 47) (v := .int z_toldMany) (T := TX8) B inG8 hW 0 rfl rfl 9 (by decide) q_f_X8_138 rfl rfl (tb_at tk_X8_tells 25 rfl) ?_
            refine lv_bipush (pc := 50) (v := 6) hx hb (tb_at tk_X8_tells 26 rfl) (by decide) ?_
            refine lv_icmp_ne (pc := 52) (tgt := 58) hx hb (tb_at tk_X8_tells 27 rfl) (by decide) (fun cc => ?_) (fun cc => ?_)
            · have h := it_f cc h
              refine lv_aload_n (pc := 58) hx hb (tb_at tk_X8_tells 30 rfl) rfl (lv_at hl 0 rfl) ?_
              refine k_get (pc := 59) (v := .ref z_told_a) (T := TX8) B inG8 hW 0 rfl rfl 10 (by decide) q_f_X8_32 rfl rfl (tb_at tk_X8_tells 31 rfl) ?_
              refine lv_iconst (pc := 62) (v := 3) hx hb (tb_at tk_X8_tells 32 rfl) (by decide) ?_
              refine lv_aload_n (pc := 63) hx hb (tb_at tk_X8_tells 33 rfl) rfl (lv_at hl 0 rfl) ?_
              refine k_get (pc := 64) (v := .int z_toldMany) (T := TX8) B inG8 hW 0 rfl rfl 9 (by decide) q_f_X8_138 rfl rfl (tb_at tk_X8_tells 34 rfl) ?_
              refine lv_imul (pc := 67) hx hb (tb_at tk_X8_tells 35 rfl) ?_
              refine lv_iload_n (pc := 68) hx hb (tb_at tk_X8_tells 36 rfl) rfl (lv_at hl 1 rfl) ?_
              have ii := ivi_in (ck_l h)
              have h := ck_r h
              refine k_iast (pc := 69) B hW hS 1 0 rfl rfl ii (tb_at tk_X8_tells 37 rfl) (w_X8_tells cI cZ cQ cW z_o z_weight_a z_wants_a z_wantsMany_a z_st_a z_was_a z_images_a z_isKept_a z_told_a z_text_a z_saidWeight_a z_saidNights_a z_saidWants_a z_saidMany_a z_now_a z_gave_a z_at_a z_way_a z_bestWay_a z_made_a z_people z_known z_toldMany z_trace z_texted z_cursor z_start z_token z_number z_isWrong z_items z_saidPeople z_saidLaw z_ringed z_lumps (upd z_told ((3 : Int32) * z_toldMany).toNatClampNeg x1)) rfl (fun H locs hW hS => ?_)
              refine lv_aload_n (pc := 70) hx hb (tb_at tk_X8_tells 38 rfl) rfl (lv_at hl 0 rfl) ?_
              refine k_get (pc := 71) (v := .ref z_told_a) (T := TX8) B inG8 hW 0 rfl rfl 10 (by decide) q_f_X8_32 rfl rfl (tb_at tk_X8_tells 39 rfl) ?_
              refine lv_iconst (pc := 74) (v := 3) hx hb (tb_at tk_X8_tells 40 rfl) (by decide) ?_
              refine lv_aload_n (pc := 75) hx hb (tb_at tk_X8_tells 41 rfl) rfl (lv_at hl 0 rfl) ?_
              refine k_get (pc := 76) (v := .int z_toldMany) (T := TX8) B inG8 hW 0 rfl rfl 9 (by decide) q_f_X8_138 rfl rfl (tb_at tk_X8_tells 42 rfl) ?_
              refine lv_imul (pc := 79) hx hb (tb_at tk_X8_tells 43 rfl) ?_
              refine lv_iconst (pc := 80) (v := 1) hx hb (tb_at tk_X8_tells 44 rfl) (by decide) ?_
              refine lv_iadd (pc := 81) hx hb (tb_at tk_X8_tells 45 rfl) ?_
              refine lv_iload_n (pc := 82) hx hb (tb_at tk_X8_tells 46 rfl) rfl (lv_at hl 2 rfl) ?_
              have ii := ivi_in (ck_l h)
              have h := ck_r h
              refine k_iast (pc := 83) B hW hS 1 0 rfl rfl ii (tb_at tk_X8_tells 47 rfl) (w_X8_tells cI cZ cQ cW z_o z_weight_a z_wants_a z_wantsMany_a z_st_a z_was_a z_images_a z_isKept_a z_told_a z_text_a z_saidWeight_a z_saidNights_a z_saidWants_a z_saidMany_a z_now_a z_gave_a z_at_a z_way_a z_bestWay_a z_made_a z_people z_known z_toldMany z_trace z_texted z_cursor z_start z_token z_number z_isWrong z_items z_saidPeople z_saidLaw z_ringed z_lumps (upd (upd z_told ((3 : Int32) * z_toldMany).toNatClampNeg x1) (((3 : Int32) * z_toldMany) + 1).toNatClampNeg x2)) rfl (fun H locs hW hS => ?_)
              refine lv_aload_n (pc := 84) hx hb (tb_at tk_X8_tells 48 rfl) rfl (lv_at hl 0 rfl) ?_
              refine k_get (pc := 85) (v := .ref z_told_a) (T := TX8) B inG8 hW 0 rfl rfl 10 (by decide) q_f_X8_32 rfl rfl (tb_at tk_X8_tells 49 rfl) ?_
              refine lv_iconst (pc := 88) (v := 3) hx hb (tb_at tk_X8_tells 50 rfl) (by decide) ?_
              refine lv_aload_n (pc := 89) hx hb (tb_at tk_X8_tells 51 rfl) rfl (lv_at hl 0 rfl) ?_
              refine k_get (pc := 90) (v := .int z_toldMany) (T := TX8) B inG8 hW 0 rfl rfl 9 (by decide) q_f_X8_138 rfl rfl (tb_at tk_X8_tells 52 rfl) ?_
              refine lv_imul (pc := 93) hx hb (tb_at tk_X8_tells 53 rfl) ?_
              refine lv_iconst (pc := 94) (v := 2) hx hb (tb_at tk_X8_tells 54 rfl) (by decide) ?_
              refine lv_iadd (pc := 95) hx hb (tb_at tk_X8_tells 55 rfl) ?_
              refine lv_iload_n (pc := 96) hx hb (tb_at tk_X8_tells 56 rfl) rfl (lv_at hl 3 rfl) ?_
              have ii := ivi_in (ck_l h)
              have h := ck_r h
              refine k_iast (pc := 97) B hW hS 1 0 rfl rfl ii (tb_at tk_X8_tells 57 rfl) (w_X8_tells cI cZ cQ cW z_o z_weight_a z_wants_a z_wantsMany_a z_st_a z_was_a z_images_a z_isKept_a z_told_a z_text_a z_saidWeight_a z_saidNights_a z_saidWants_a z_saidMany_a z_now_a z_gave_a z_at_a z_way_a z_bestWay_a z_made_a z_people z_known z_toldMany z_trace z_texted z_cursor z_start z_token z_number z_isWrong z_items z_saidPeople z_saidLaw z_ringed z_lumps (upd (upd (upd z_told ((3 : Int32) * z_toldMany).toNatClampNeg x1) (((3 : Int32) * z_toldMany) + 1).toNatClampNeg x2) (((3 : Int32) * z_toldMany) + 2).toNatClampNeg x3)) rfl (fun H locs hW hS => ?_)
              refine lv_aload_n (pc := 98) hx hb (tb_at tk_X8_tells 58 rfl) rfl (lv_at hl 0 rfl) ?_
              refine lv_dup (pc := 99) hx hb (tb_at tk_X8_tells 59 rfl) rfl ?_
              refine k_get (pc := 100) (v := .int z_toldMany) (T := TX8) B inG8 hW 0 rfl rfl 9 (by decide) q_f_X8_138 rfl rfl (tb_at tk_X8_tells 60 rfl) ?_
              refine lv_iconst (pc := 103) (v := 1) hx hb (tb_at tk_X8_tells 61 rfl) (by decide) ?_
              refine lv_iadd (pc := 104) hx hb (tb_at tk_X8_tells 62 rfl) ?_
              refine k_put (pc := 105) (T := TX8) B inG8 tyX8 tyX8_ok nmX8 hW hS 0 rfl rfl 9 (by decide) q_f_X8_138 rfl rfl rfl rfl (Nat.le_of_ble_eq_true rfl) (tb_at tk_X8_tells 63 rfl) (w_X8_tells cI cZ cQ cW z_o z_weight_a z_wants_a z_wantsMany_a z_st_a z_was_a z_images_a z_isKept_a z_told_a z_text_a z_saidWeight_a z_saidNights_a z_saidWants_a z_saidMany_a z_now_a z_gave_a z_at_a z_way_a z_bestWay_a z_made_a z_people z_known (z_toldMany + 1) z_trace z_texted z_cursor z_start z_token z_number z_isWrong z_items z_saidPeople z_saidLaw z_ringed z_lumps (upd (upd (upd z_told ((3 : Int32) * z_toldMany).toNatClampNeg x1) (((3 : Int32) * z_toldMany) + 1).toNatClampNeg x2) (((3 : Int32) * z_toldMany) + 2).toNatClampNeg x3)) rfl (fun H locs hW hS => ?_)
              refine lv_aload_n (pc := 108) hx hb (tb_at tk_X8_tells 64 rfl) rfl (lv_at hl 0 rfl) ?_
              refine k_get (pc := 109) (v := .int (z_toldMany + 1)) (T := TX8) B inG8 hW 0 rfl rfl 9 (by decide) q_f_X8_138 rfl rfl (tb_at tk_X8_tells 65 rfl) ?_
              exact hQ (z_toldMany + 1) (z_toldMany + 1, upd (upd (upd z_told ((3 : Int32) * z_toldMany).toNatClampNeg x1) (((3 : Int32) * z_toldMany) + 1).toNatClampNeg x2) (((3 : Int32) * z_toldMany) + 2).toNatClampNeg x3) _ _ _ 112 rfl h hW hS (tb_at tk_X8_tells 66 rfl)
            · have h := it_t cc h
              refine lv_bipush (pc := 55) (v := (-3)) hx hb (tb_at tk_X8_tells 28 rfl) (by decide) ?_
              exact hQ (-3) (z_toldMany, z_told) _ _ _ 57 rfl h hW hS (tb_at tk_X8_tells 29 rfl)
          · have h := it_t cc h
            refine lv_iconst (pc := 44) (v := (-1)) hx hb (tb_at tk_X8_tells 22 rfl) (by decide) ?_
            exact hQ (-1) (z_toldMany, z_told) _ _ _ 45 rfl h hW hS (tb_at tk_X8_tells 23 rfl)
def f_X8_forget {ρ : Type} (N : Nat) (z_toldMany : Int32) (k : Int32 → Int32 → Option ρ) : Option ρ := k z_toldMany 0
abbrev w_X8_forget (cI cZ cQ cW : ClassId) (z_o : Nat) (z_weight_a : Nat) (z_wants_a : Nat) (z_wantsMany_a : Nat) (z_st_a : Nat) (z_was_a : Nat) (z_images_a : Nat) (z_isKept_a : Nat) (z_told_a : Nat) (z_text_a : Nat) (z_saidWeight_a : Nat) (z_saidNights_a : Nat) (z_saidWants_a : Nat) (z_saidMany_a : Nat) (z_now_a : Nat) (z_gave_a : Nat) (z_at_a : Nat) (z_way_a : Nat) (z_bestWay_a : Nat) (z_made_a : Nat) (z_people : Int32) (z_known : Int32) (z_toldMany : Int32) (z_trace : Int64) (z_texted : Int32) (z_cursor : Int32) (z_start : Int32) (z_token : Int32) (z_number : Int32) (z_isWrong : Int32) (z_items : Int32) (z_saidPeople : Int32) (z_saidLaw : Int32) (z_ringed : Int32) (z_lumps : Int32) : va_W := [(z_o, .inr (8, [.int z_people, .ref z_weight_a, .ref z_wants_a, .ref z_wantsMany_a, .ref z_st_a, .ref z_was_a, .int z_known, .ref z_images_a, .ref z_isKept_a, .int z_toldMany, .ref z_told_a, .long z_trace, .ref z_text_a, .int z_texted, .int z_cursor, .int z_start, .int z_token, .int z_number, .int z_isWrong, .int z_items, .int z_saidPeople, .ref z_saidWeight_a, .ref z_saidNights_a, .ref z_saidWants_a, .ref z_saidMany_a, .int z_saidLaw, .ref z_now_a, .ref z_gave_a, .ref z_at_a, .int z_ringed, .int z_lumps, .ref z_way_a, .ref z_bestWay_a, .ref z_made_a]))]
abbrev rm_X8_forget : Room := { frames := 0, cells := 0, slots := 0, locals := 0 }
set_option maxHeartbeats 4000000 in
set_option maxRecDepth 100000 in
theorem c_X8_forget (l : Launch) (dC : Nat → ClassId) (dI : Nat → Nat → Nat) (cI cZ cQ cW : ClassId) (z_o : Nat) (z_weight_a : Nat) (z_wants_a : Nat) (z_wantsMany_a : Nat) (z_st_a : Nat) (z_was_a : Nat) (z_images_a : Nat) (z_isKept_a : Nat) (z_told_a : Nat) (z_text_a : Nat) (z_saidWeight_a : Nat) (z_saidNights_a : Nat) (z_saidWants_a : Nat) (z_saidMany_a : Nat) (z_now_a : Nat) (z_gave_a : Nat) (z_at_a : Nat) (z_way_a : Nat) (z_bestWay_a : Nat) (z_made_a : Nat) (z_people : Int32) (z_known : Int32) (z_toldMany : Int32) (z_trace : Int64) (z_texted : Int32) (z_cursor : Int32) (z_start : Int32) (z_token : Int32) (z_number : Int32) (z_isWrong : Int32) (z_items : Int32) (z_saidPeople : Int32) (z_saidLaw : Int32) (z_ringed : Int32) (z_lumps : Int32) {ρ : Type} (N : Nat) (k : Int32 → Int32 → Option ρ) (res : ρ) (h : f_X8_forget N z_toldMany k = some res) : Ci l yX8_forget (WS yX8_forget cX8_forget 2 (some .int)) rm_X8_forget (dC, dI) (tysG cI cZ cQ cW) E0 [.ref z_o] (w_X8_forget cI cZ cQ cW z_o z_weight_a z_wants_a z_wantsMany_a z_st_a z_was_a z_images_a z_isKept_a z_told_a z_text_a z_saidWeight_a z_saidNights_a z_saidWants_a z_saidMany_a z_now_a z_gave_a z_at_a z_way_a z_bestWay_a z_made_a z_people z_known z_toldMany z_trace z_texted z_cursor z_start z_token z_number z_isWrong z_items z_saidPeople z_saidLaw z_ringed z_lumps) (fun (u : Int32) => (w_X8_forget cI cZ cQ cW z_o z_weight_a z_wants_a z_wantsMany_a z_st_a z_was_a z_images_a z_isKept_a z_told_a z_text_a z_saidWeight_a z_saidNights_a z_saidWants_a z_saidMany_a z_now_a z_gave_a z_at_a z_way_a z_bestWay_a z_made_a z_people z_known u z_trace z_texted z_cursor z_start z_token z_number z_isWrong z_items z_saidPeople z_saidLaw z_ringed z_lumps)) (fun r u => k r u = some res) := by
  refine Ci.of (cc := cX8_forget) (n := 2) (by decide +kernel) (Nat.le_of_ble_eq_true rfl) ?_
  intro p e s m args below meth c A ls Q B hW hE hS hl hQ
  have hx := B.1
  have hb := B.2.1
  have hl : lv_has ls 2 [(0, .ref z_o)] := hl
  unfold f_X8_forget at h
  refine lv_aload_n (pc := 0) hx hb (tb_at tk_X8_forget 0 rfl) rfl (lv_at hl 0 rfl) ?_
  refine k_get (pc := 1) (v := .int z_toldMany) (T := TX8) B inG8 hW 0 rfl rfl 9 (by decide) q_f_X8_138 rfl rfl (tb_at tk_X8_forget 1 rfl) ?_
  refine lv_istore_n (pc := 4) (lv' := [(1, .int z_toldMany), (0, .ref z_o)]) hx hb (tb_at tk_X8_forget 2 rfl) rfl hl (by decide) rfl (fun ls hl => ?_)
  refine lv_aload_n (pc := 5) hx hb (tb_at tk_X8_forget 3 rfl) rfl (lv_at hl 1 rfl) ?_
  refine lv_iconst (pc := 6) (v := 0) hx hb (tb_at tk_X8_forget 4 rfl) (by decide) ?_
  refine k_put (pc := 7) (T := TX8) B inG8 tyX8 tyX8_ok nmX8 hW hS 0 rfl rfl 9 (by decide) q_f_X8_138 rfl rfl rfl rfl (Nat.le_of_ble_eq_true rfl) (tb_at tk_X8_forget 5 rfl) (w_X8_forget cI cZ cQ cW z_o z_weight_a z_wants_a z_wantsMany_a z_st_a z_was_a z_images_a z_isKept_a z_told_a z_text_a z_saidWeight_a z_saidNights_a z_saidWants_a z_saidMany_a z_now_a z_gave_a z_at_a z_way_a z_bestWay_a z_made_a z_people z_known 0 z_trace z_texted z_cursor z_start z_token z_number z_isWrong z_items z_saidPeople z_saidLaw z_ringed z_lumps) rfl (fun H locs hW hS => ?_)
  refine lv_iload_n (pc := 10) hx hb (tb_at tk_X8_forget 6 rfl) rfl (lv_at hl 0 rfl) ?_
  exact hQ z_toldMany (0) _ _ _ 11 rfl h hW hS (tb_at tk_X8_forget 7 rfl)
def f_X8_isSo_e29 {ρ : Type} (x1 : Int32) (x2 : Int32) (z_gave : Nat → Int32) (z_at : Nat → Int32) (z_people : Int32) (z_told : Nat → Int32) (z_wantsMany : Nat → Int32) (z_wants : Nat → Int32) (z_weight : Nat → Int32) (k : Int32 → Int32 → Int32 → (Nat → Int32) → (Nat → Int32) → (Nat → Int32) → Option ρ) (N : Nat) (z_now_e29 : Nat → Int32) : Option ρ := ck (ivi ((3 : Int32) * x1) 18) (f_X8_goesBy N z_people z_now_e29 z_gave z_wantsMany z_wants z_weight z_at (z_told ((3 : Int32) * x1).toNatClampNeg) x2 (fun z_ringed_39 z_lumps_39 z_now_39 z_gave_39 z_at_39 => ck (ivi (((3 : Int32) * x1) + 1) 18) (ck (ivi ((0 : Int32) + (z_told (((3 : Int32) * x1) + 1).toNatClampNeg)) 25) (ck (ivi (((3 : Int32) * x1) + 2) 18) (if (z_now_39 ((0 : Int32) + (z_told (((3 : Int32) * x1) + 1).toNatClampNeg)).toNatClampNeg) = (z_told (((3 : Int32) * x1) + 2).toNatClampNeg) then (k 1 z_ringed_39 z_lumps_39 z_now_39 z_gave_39 z_at_39) else (k 0 z_ringed_39 z_lumps_39 z_now_39 z_gave_39 z_at_39))))))
def f_X8_isSo_l6 {ρ : Type} (z_people : Int32) (k29 : (Nat → Int32) → Option ρ) : Nat → Int32 → (Nat → Int32) → Option ρ
  | 0, _, _ => none
  | n6 + 1, y3_l6, z_now_l6 => if z_people ≤ y3_l6 then (k29 z_now_l6) else (ck (ivi ((0 : Int32) + y3_l6) 25) ((f_X8_isSo_l6 z_people k29 n6) (y3_l6 + 1) (upd z_now_l6 ((0 : Int32) + y3_l6).toNatClampNeg y3_l6)))
def f_X8_isSo {ρ : Type} (N : Nat) (z_people : Int32) (z_st : Nat → Int32) (z_now : Nat → Int32) (z_told : Nat → Int32) (z_gave : Nat → Int32) (z_wantsMany : Nat → Int32) (z_wants : Nat → Int32) (z_weight : Nat → Int32) (z_at : Nat → Int32) (x1 : Int32) (x2 : Int32) (k : Int32 → Int32 → Int32 → (Nat → Int32) → (Nat → Int32) → (Nat → Int32) → Option ρ) : Option ρ := f_X8_asItIs N z_st z_now (fun z_now_1 => f_X8_isSo_l6 z_people (fun z_now_e29 => f_X8_isSo_e29 x1 x2 z_gave z_at z_people z_told z_wantsMany z_wants z_weight k N z_now_e29) N 0 z_now_1)
abbrev w_X8_isSo (cI cZ cQ cW : ClassId) (z_o : Nat) (z_weight_a : Nat) (z_wants_a : Nat) (z_wantsMany_a : Nat) (z_st_a : Nat) (z_was_a : Nat) (z_images_a : Nat) (z_isKept_a : Nat) (z_told_a : Nat) (z_text_a : Nat) (z_saidWeight_a : Nat) (z_saidNights_a : Nat) (z_saidWants_a : Nat) (z_saidMany_a : Nat) (z_now_a : Nat) (z_gave_a : Nat) (z_at_a : Nat) (z_way_a : Nat) (z_bestWay_a : Nat) (z_made_a : Nat) (z_people : Int32) (z_known : Int32) (z_toldMany : Int32) (z_trace : Int64) (z_texted : Int32) (z_cursor : Int32) (z_start : Int32) (z_token : Int32) (z_number : Int32) (z_isWrong : Int32) (z_items : Int32) (z_saidPeople : Int32) (z_saidLaw : Int32) (z_ringed : Int32) (z_lumps : Int32) (z_st : Nat → Int32) (z_now : Nat → Int32) (z_told : Nat → Int32) (z_gave : Nat → Int32) (z_wantsMany : Nat → Int32) (z_wants : Nat → Int32) (z_weight : Nat → Int32) (z_at : Nat → Int32) : va_W := [(z_o, .inr (8, [.int z_people, .ref z_weight_a, .ref z_wants_a, .ref z_wantsMany_a, .ref z_st_a, .ref z_was_a, .int z_known, .ref z_images_a, .ref z_isKept_a, .int z_toldMany, .ref z_told_a, .long z_trace, .ref z_text_a, .int z_texted, .int z_cursor, .int z_start, .int z_token, .int z_number, .int z_isWrong, .int z_items, .int z_saidPeople, .ref z_saidWeight_a, .ref z_saidNights_a, .ref z_saidWants_a, .ref z_saidMany_a, .int z_saidLaw, .ref z_now_a, .ref z_gave_a, .ref z_at_a, .int z_ringed, .int z_lumps, .ref z_way_a, .ref z_bestWay_a, .ref z_made_a])), (z_st_a, .inl (cI, 25, .inl z_st)), (z_now_a, .inl (cI, 25, .inl z_now)), (z_told_a, .inl (cI, 18, .inl z_told)), (z_gave_a, .inl (cI, 6, .inl z_gave)), (z_wantsMany_a, .inl (cI, 6, .inl z_wantsMany)), (z_wants_a, .inl (cI, 24, .inl z_wants)), (z_weight_a, .inl (cI, 6, .inl z_weight)), (z_at_a, .inl (cI, 6, .inl z_at))]
abbrev rm_X8_isSo : Room := { frames := 4, cells := 0, slots := 0, locals := 101 }
set_option maxHeartbeats 4000000 in
set_option maxRecDepth 100000 in
theorem c_X8_isSo (l : Launch) (dC : Nat → ClassId) (dI : Nat → Nat → Nat) (cI cZ cQ cW : ClassId) (z_o : Nat) (z_weight_a : Nat) (z_wants_a : Nat) (z_wantsMany_a : Nat) (z_st_a : Nat) (z_was_a : Nat) (z_images_a : Nat) (z_isKept_a : Nat) (z_told_a : Nat) (z_text_a : Nat) (z_saidWeight_a : Nat) (z_saidNights_a : Nat) (z_saidWants_a : Nat) (z_saidMany_a : Nat) (z_now_a : Nat) (z_gave_a : Nat) (z_at_a : Nat) (z_way_a : Nat) (z_bestWay_a : Nat) (z_made_a : Nat) (z_people : Int32) (z_known : Int32) (z_toldMany : Int32) (z_trace : Int64) (z_texted : Int32) (z_cursor : Int32) (z_start : Int32) (z_token : Int32) (z_number : Int32) (z_isWrong : Int32) (z_items : Int32) (z_saidPeople : Int32) (z_saidLaw : Int32) (z_ringed : Int32) (z_lumps : Int32) (z_st : Nat → Int32) (z_now : Nat → Int32) (z_told : Nat → Int32) (z_gave : Nat → Int32) (z_wantsMany : Nat → Int32) (z_wants : Nat → Int32) (z_weight : Nat → Int32) (z_at : Nat → Int32) (x1 : Int32) (x2 : Int32) {ρ : Type} (N : Nat) (k : Int32 → Int32 → Int32 → (Nat → Int32) → (Nat → Int32) → (Nat → Int32) → Option ρ) (res : ρ) (h : f_X8_isSo N z_people z_st z_now z_told z_gave z_wantsMany z_wants z_weight z_at x1 x2 k = some res) : Ci l yX8_isSo (WS yX8_isSo cX8_isSo 4 (some .boolean)) rm_X8_isSo (dC, dI) (tysG cI cZ cQ cW) E0 [.ref z_o, .int x1, .int x2] (w_X8_isSo cI cZ cQ cW z_o z_weight_a z_wants_a z_wantsMany_a z_st_a z_was_a z_images_a z_isKept_a z_told_a z_text_a z_saidWeight_a z_saidNights_a z_saidWants_a z_saidMany_a z_now_a z_gave_a z_at_a z_way_a z_bestWay_a z_made_a z_people z_known z_toldMany z_trace z_texted z_cursor z_start z_token z_number z_isWrong z_items z_saidPeople z_saidLaw z_ringed z_lumps z_st z_now z_told z_gave z_wantsMany z_wants z_weight z_at) (fun (u : Int32 × Int32 × (Nat → Int32) × (Nat → Int32) × (Nat → Int32)) => (w_X8_isSo cI cZ cQ cW z_o z_weight_a z_wants_a z_wantsMany_a z_st_a z_was_a z_images_a z_isKept_a z_told_a z_text_a z_saidWeight_a z_saidNights_a z_saidWants_a z_saidMany_a z_now_a z_gave_a z_at_a z_way_a z_bestWay_a z_made_a z_people z_known z_toldMany z_trace z_texted z_cursor z_start z_token z_number z_isWrong z_items z_saidPeople z_saidLaw u.1 u.2.1 z_st u.2.2.1 z_told u.2.2.2.1 z_wantsMany z_wants z_weight u.2.2.2.2)) (fun r u => k r u.1 u.2.1 u.2.2.1 u.2.2.2.1 u.2.2.2.2 = some res) := by
  refine Ci.of (cc := cX8_isSo) (n := 4) (by decide +kernel) (Nat.le_of_ble_eq_true rfl) ?_
  intro p e s m args below meth c A ls Q B hW hE hS hl hQ
  have hx := B.1
  have hb := B.2.1
  have hl : lv_has ls 4 [(0, .ref z_o), (1, .int x1), (2, .int x2)] := hl
  unfold f_X8_isSo at h
  refine lv_aload_n (pc := 0) hx hb (tb_at tk_X8_isSo 0 rfl) rfl (lv_at hl 0 rfl) ?_
  refine k_callv (pc := 1) B (k_runVv (rest := []) (C := RX8) B (c_X8_asItIs l dC dI cI cZ cQ cW z_o z_weight_a z_wants_a z_wantsMany_a z_st_a z_was_a z_images_a z_isKept_a z_told_a z_text_a z_saidWeight_a z_saidNights_a z_saidWants_a z_saidMany_a z_now_a z_gave_a z_at_a z_way_a z_bestWay_a z_made_a z_people z_known z_toldMany z_trace z_texted z_cursor z_start z_token z_number z_isWrong z_items z_saidPeople z_saidLaw z_ringed z_lumps z_st z_now  N _ res h) E0_st (fun _ _ _ => trivial) q_c_X8_asItIs q_m_X8_181 q_i_X8_asItIs q_s_X8_asItIs q_n_X8 hd_X8_asItIs ⟨rfl, rfl⟩ ⟨Nat.le_of_ble_eq_true rfl, Nat.le_of_ble_eq_true rfl⟩ hW [0, 1, 2] rfl (by decide +kernel) (q0 := 0) (ci := 8) rfl rfl rfl hl.1 rfl (Nat.le_of_ble_eq_true rfl) (tb_at tk_X8_isSo 1 rfl) ⟨Nat.zero_le _, Nat.zero_le _⟩) hW hS [0, 1, 2] rfl [z_o, z_st_a, z_now_a] rfl (fun _ => rfl) [some 0, some 1, some 2, none, none, none, none, none, none] (by decide +kernel) (fun u => (w_X8_isSo cI cZ cQ cW z_o z_weight_a z_wants_a z_wantsMany_a z_st_a z_was_a z_images_a z_isKept_a z_told_a z_text_a z_saidWeight_a z_saidNights_a z_saidWants_a z_saidMany_a z_now_a z_gave_a z_at_a z_way_a z_bestWay_a z_made_a z_people z_known z_toldMany z_trace z_texted z_cursor z_start z_token z_number z_isWrong z_items z_saidPeople z_saidLaw z_ringed z_lumps z_st u z_told z_gave z_wantsMany z_wants z_weight z_at)) (fun _ => rfl) (fun u H locs h hW hS => ?_)
  obtain ⟨z_now_1, rfl⟩ : ∃ z9, z9 = u := ⟨_, rfl⟩
  have hW : PD (dC, dI) A (w_X8_isSo cI cZ cQ cW z_o z_weight_a z_wants_a z_wantsMany_a z_st_a z_was_a z_images_a z_isKept_a z_told_a z_text_a z_saidWeight_a z_saidNights_a z_saidWants_a z_saidMany_a z_now_a z_gave_a z_at_a z_way_a z_bestWay_a z_made_a z_people z_known z_toldMany z_trace z_texted z_cursor z_start z_token z_number z_isWrong z_items z_saidPeople z_saidLaw z_ringed z_lumps z_st z_now_1 z_told z_gave z_wantsMany z_wants z_weight z_at) H := hW
  refine lv_iconst (pc := 4) (v := 0) hx hb (tb_at tk_X8_isSo 2 rfl) (by decide) ?_
  refine lv_istore_n (pc := 5) (lv' := [(3, .int 0), (0, .ref z_o), (1, .int x1), (2, .int x2)]) hx hb (tb_at tk_X8_isSo 3 rfl) rfl hl (by decide) rfl (fun ls hl => ?_)
  have w29 : ∀ (z_now_e29 : Nat → Int32) (H : Heap) (locs : List Loc) (ls : Array Slot), f_X8_isSo_e29 x1 x2 z_gave z_at z_people z_told z_wantsMany z_wants z_weight k N z_now_e29 = some res → PD (dC, dI) A (w_X8_isSo cI cZ cQ cW z_o z_weight_a z_wants_a z_wantsMany_a z_st_a z_was_a z_images_a z_isKept_a z_told_a z_text_a z_saidWeight_a z_saidNights_a z_saidWants_a z_saidMany_a z_now_a z_gave_a z_at_a z_way_a z_bestWay_a z_made_a z_people z_known z_toldMany z_trace z_texted z_cursor z_start z_token z_number z_isWrong z_items z_saidPeople z_saidLaw z_ringed z_lumps z_st z_now_e29 z_told z_gave z_wantsMany z_wants z_weight z_at) H → va_S A s.heap H locs → lv_has ls 4 [(0, .ref z_o), (1, .int x1), (2, .int x2)] → W p l e rm_X8_isSo s m args below meth c H locs 0 0 Q (F0 m 29 ls []) := by
    intro z_now_e29 H locs ls h hW hS hl
    unfold f_X8_isSo_e29 at h
    refine lv_aload_n (pc := 29) hx hb (tb_at tk_X8_isSo 17 rfl) rfl (lv_at hl 0 rfl) ?_
    refine lv_aload_n (pc := 30) hx hb (tb_at tk_X8_isSo 18 rfl) rfl (lv_at hl 0 rfl) ?_
    refine k_get (pc := 31) (v := .ref z_told_a) (T := TX8) B inG8 hW 0 rfl rfl 10 (by decide) q_f_X8_32 rfl rfl (tb_at tk_X8_isSo 19 rfl) ?_
    refine lv_iconst (pc := 34) (v := 3) hx hb (tb_at tk_X8_isSo 20 rfl) (by decide) ?_
    refine lv_iload_n (pc := 35) hx hb (tb_at tk_X8_isSo 21 rfl) rfl (lv_at hl 1 rfl) ?_
    refine lv_imul (pc := 36) hx hb (tb_at tk_X8_isSo 22 rfl) ?_
    have ii := ivi_in (ck_l h)
    have h := ck_r h
    refine k_iald (pc := 37) B hW 3 0 rfl rfl ii (tb_at tk_X8_isSo 23 rfl) ?_
    refine lv_iload_n (pc := 38) hx hb (tb_at tk_X8_isSo 24 rfl) rfl (lv_at hl 2 rfl) ?_
    refine k_callv (pc := 39) B (k_runVv (rest := []) (C := RX8) B (c_X8_goesBy l dC dI cI cZ cQ cW z_o z_weight_a z_wants_a z_wantsMany_a z_st_a z_was_a z_images_a z_isKept_a z_told_a z_text_a z_saidWeight_a z_saidNights_a z_saidWants_a z_saidMany_a z_now_a z_gave_a z_at_a z_way_a z_bestWay_a z_made_a z_people z_known z_toldMany z_trace z_texted z_cursor z_start z_token z_number z_isWrong z_items z_saidPeople z_saidLaw z_ringed z_lumps z_now_e29 z_gave z_wantsMany z_wants z_weight z_at (z_told ((3 : Int32) * x1).toNatClampNeg) x2 N _ res h) E0_st (fun _ _ _ => trivial) q_c_X8_goesBy q_m_X8_184 q_i_X8_goesBy q_s_X8_goesBy q_n_X8 hd_X8_goesBy ⟨rfl, rfl⟩ ⟨Nat.le_of_ble_eq_true rfl, Nat.le_of_ble_eq_true rfl⟩ hW [0, 2, 4, 5, 6, 7, 8] rfl (by decide +kernel) (q0 := 0) (ci := 8) rfl rfl rfl hl.1 rfl (Nat.le_of_ble_eq_true rfl) (tb_at tk_X8_isSo 25 rfl) ⟨Nat.zero_le _, Nat.zero_le _⟩) hW hS [0, 2, 4, 5, 6, 7, 8] rfl [z_o, z_now_a, z_gave_a, z_wantsMany_a, z_wants_a, z_weight_a, z_at_a] rfl (fun _ => rfl) [some 0, none, some 1, none, some 2, some 3, some 4, some 5, some 6] (by decide +kernel) (fun u => (w_X8_isSo cI cZ cQ cW z_o z_weight_a z_wants_a z_wantsMany_a z_st_a z_was_a z_images_a z_isKept_a z_told_a z_text_a z_saidWeight_a z_saidNights_a z_saidWants_a z_saidMany_a z_now_a z_gave_a z_at_a z_way_a z_bestWay_a z_made_a z_people z_known z_toldMany z_trace z_texted z_cursor z_start z_token z_number z_isWrong z_items z_saidPeople z_saidLaw u.1 u.2.1 z_st u.2.2.1 z_told u.2.2.2.1 z_wantsMany z_wants z_weight u.2.2.2.2)) (fun _ => rfl) (fun u H locs h hW hS => ?_)
    obtain ⟨z_ringed_39, z_lumps_39, z_now_39, z_gave_39, z_at_39⟩ := u
    dsimp only at h
    have hW : PD (dC, dI) A (w_X8_isSo cI cZ cQ cW z_o z_weight_a z_wants_a z_wantsMany_a z_st_a z_was_a z_images_a z_isKept_a z_told_a z_text_a z_saidWeight_a z_saidNights_a z_saidWants_a z_saidMany_a z_now_a z_gave_a z_at_a z_way_a z_bestWay_a z_made_a z_people z_known z_toldMany z_trace z_texted z_cursor z_start z_token z_number z_isWrong z_items z_saidPeople z_saidLaw z_ringed_39 z_lumps_39 z_st z_now_39 z_told z_gave_39 z_wantsMany z_wants z_weight z_at_39) H := hW
    refine lv_aload_n (pc := 42) hx hb (tb_at tk_X8_isSo 26 rfl) rfl (lv_at hl 0 rfl) ?_
    refine k_get (pc := 43) (v := .ref z_now_a) (T := TX8) B inG8 hW 0 rfl rfl 26 (by decide) q_f_X8_50 rfl rfl (tb_at tk_X8_isSo 27 rfl) ?_
    refine lv_iconst (pc := 46) (v := 0) hx hb (tb_at tk_X8_isSo 28 rfl) (by decide) ?_
    refine lv_aload_n (pc := 47) hx hb (tb_at tk_X8_isSo 29 rfl) rfl (lv_at hl 0 rfl) ?_
    refine k_get (pc := 48) (v := .ref z_told_a) (T := TX8) B inG8 hW 0 rfl rfl 10 (by decide) q_f_X8_32 rfl rfl (tb_at tk_X8_isSo 30 rfl) ?_
    refine lv_iconst (pc := 51) (v := 3) hx hb (tb_at tk_X8_isSo 31 rfl) (by decide) ?_
    refine lv_iload_n (pc := 52) hx hb (tb_at tk_X8_isSo 32 rfl) rfl (lv_at hl 1 rfl) ?_
    refine lv_imul (pc := 53) hx hb (tb_at tk_X8_isSo 33 rfl) ?_
    refine lv_iconst (pc := 54) (v := 1) hx hb (tb_at tk_X8_isSo 34 rfl) (by decide) ?_
    refine lv_iadd (pc := 55) hx hb (tb_at tk_X8_isSo 35 rfl) ?_
    have ii := ivi_in (ck_l h)
    have h := ck_r h
    refine k_iald (pc := 56) B hW 3 0 rfl rfl ii (tb_at tk_X8_isSo 36 rfl) ?_
    refine lv_iadd (pc := 57) hx hb (tb_at tk_X8_isSo 37 rfl) ?_
    have ii := ivi_in (ck_l h)
    have h := ck_r h
    refine k_iald (pc := 58) B hW 2 0 rfl rfl ii (tb_at tk_X8_isSo 38 rfl) ?_
    refine lv_aload_n (pc := 59) hx hb (tb_at tk_X8_isSo 39 rfl) rfl (lv_at hl 0 rfl) ?_
    refine k_get (pc := 60) (v := .ref z_told_a) (T := TX8) B inG8 hW 0 rfl rfl 10 (by decide) q_f_X8_32 rfl rfl (tb_at tk_X8_isSo 40 rfl) ?_
    refine lv_iconst (pc := 63) (v := 3) hx hb (tb_at tk_X8_isSo 41 rfl) (by decide) ?_
    refine lv_iload_n (pc := 64) hx hb (tb_at tk_X8_isSo 42 rfl) rfl (lv_at hl 1 rfl) ?_
    refine lv_imul (pc := 65) hx hb (tb_at tk_X8_isSo 43 rfl) ?_
    refine lv_iconst (pc := 66) (v := 2) hx hb (tb_at tk_X8_isSo 44 rfl) (by decide) ?_
    refine lv_iadd (pc := 67) hx hb (tb_at tk_X8_isSo 45 rfl) ?_
    have ii := ivi_in (ck_l h)
    have h := ck_r h
    refine k_iald (pc := 68) B hW 3 0 rfl rfl ii (tb_at tk_X8_isSo 46 rfl) ?_
    refine lv_icmp_ne (pc := 69) (tgt := 76) hx hb (tb_at tk_X8_isSo 47 rfl) (by decide) (fun cc => ?_) (fun cc => ?_)
    · have h := it_f cc h
      refine lv_iconst (pc := 76) (v := 0) hx hb (tb_at tk_X8_isSo 50 rfl) (by decide) ?_
      exact hQ 0 (z_ringed_39, z_lumps_39, z_now_39, z_gave_39, z_at_39) _ _ _ 77 nz0 h hW hS (tb_at tk_X8_isSo 51 rfl)
    · have h := it_t cc h
      refine lv_iconst (pc := 72) (v := 1) hx hb (tb_at tk_X8_isSo 48 rfl) (by decide) ?_
      refine lv_goto (pc := 73) (tgt := 77) hx hb (tb_at tk_X8_isSo 49 rfl) (by decide) ?_
      exact hQ 1 (z_ringed_39, z_lumps_39, z_now_39, z_gave_39, z_at_39) _ _ _ 77 nz1 h hW hS (tb_at tk_X8_isSo 51 rfl)
  have w6 : ∀ (n : Nat), ∀ (y3_l6 : Int32) (z_now_l6 : Nat → Int32) (H : Heap) (locs : List Loc) (ls : Array Slot), f_X8_isSo_l6 z_people (fun z_now_e29 => f_X8_isSo_e29 x1 x2 z_gave z_at z_people z_told z_wantsMany z_wants z_weight k N z_now_e29) n y3_l6 z_now_l6 = some res → PD (dC, dI) A (w_X8_isSo cI cZ cQ cW z_o z_weight_a z_wants_a z_wantsMany_a z_st_a z_was_a z_images_a z_isKept_a z_told_a z_text_a z_saidWeight_a z_saidNights_a z_saidWants_a z_saidMany_a z_now_a z_gave_a z_at_a z_way_a z_bestWay_a z_made_a z_people z_known z_toldMany z_trace z_texted z_cursor z_start z_token z_number z_isWrong z_items z_saidPeople z_saidLaw z_ringed z_lumps z_st z_now_l6 z_told z_gave z_wantsMany z_wants z_weight z_at) H → va_S A s.heap H locs → lv_has ls 4 [(0, .ref z_o), (1, .int x1), (2, .int x2), (3, .int y3_l6)] → W p l e rm_X8_isSo s m args below meth c H locs 0 0 Q (F0 m 6 ls []) := by
    intro n
    induction n with
    | zero => intro y3_l6 z_now_l6 H locs ls h; exact no_n h
    | succ n6 ih6 =>
      intro y3_l6 z_now_l6 H locs ls h hW hS hl
      rw [f_X8_isSo_l6] at h
      refine lv_iload_n (pc := 6) hx hb (tb_at tk_X8_isSo 4 rfl) rfl (lv_at hl 3 rfl) ?_
      refine lv_aload_n (pc := 7) hx hb (tb_at tk_X8_isSo 5 rfl) rfl (lv_at hl 0 rfl) ?_
      refine k_get (pc := 8) (v := .int z_people) (T := TX8) B inG8 hW 0 rfl rfl 0 (by decide) q_f_X8_68 rfl rfl (tb_at tk_X8_isSo 6 rfl) ?_
      refine lv_icmp_ge (pc := 11) (tgt := 29) hx hb (tb_at tk_X8_isSo 7 rfl) (by decide) (fun cc => ?_) (fun cc => ?_)
      · have h := it_t cc h
        exact w29 z_now_l6 _ _ _ h hW hS (lv_sub hl [0, 1, 2] rfl)
      · have h := it_f cc h
        refine lv_aload_n (pc := 14) hx hb (tb_at tk_X8_isSo 8 rfl) rfl (lv_at hl 0 rfl) ?_
        refine k_get (pc := 15) (v := .ref z_now_a) (T := TX8) B inG8 hW 0 rfl rfl 26 (by decide) q_f_X8_50 rfl rfl (tb_at tk_X8_isSo 9 rfl) ?_
        refine lv_iconst (pc := 18) (v := 0) hx hb (tb_at tk_X8_isSo 10 rfl) (by decide) ?_
        refine lv_iload_n (pc := 19) hx hb (tb_at tk_X8_isSo 11 rfl) rfl (lv_at hl 3 rfl) ?_
        refine lv_iadd (pc := 20) hx hb (tb_at tk_X8_isSo 12 rfl) ?_
        refine lv_iload_n (pc := 21) hx hb (tb_at tk_X8_isSo 13 rfl) rfl (lv_at hl 3 rfl) ?_
        have ii := ivi_in (ck_l h)
        have h := ck_r h
        refine k_iast (pc := 22) B hW hS 2 0 rfl rfl ii (tb_at tk_X8_isSo 14 rfl) (w_X8_isSo cI cZ cQ cW z_o z_weight_a z_wants_a z_wantsMany_a z_st_a z_was_a z_images_a z_isKept_a z_told_a z_text_a z_saidWeight_a z_saidNights_a z_saidWants_a z_saidMany_a z_now_a z_gave_a z_at_a z_way_a z_bestWay_a z_made_a z_people z_known z_toldMany z_trace z_texted z_cursor z_start z_token z_number z_isWrong z_items z_saidPeople z_saidLaw z_ringed z_lumps z_st (upd z_now_l6 ((0 : Int32) + y3_l6).toNatClampNeg y3_l6) z_told z_gave z_wantsMany z_wants z_weight z_at) rfl (fun H locs hW hS => ?_)
        refine lv_iinc (pc := 23) (v := y3_l6 + 1) (lv' := [(3, .int (y3_l6 + 1)), (0, .ref z_o), (1, .int x1), (2, .int x2)]) hx hb (tb_at tk_X8_isSo 15 rfl) hl (k := 3) rfl rfl (by decide) rfl (fun ls hl => ?_)
        refine lv_goto (pc := 26) (tgt := 6) hx hb (tb_at tk_X8_isSo 16 rfl) (by decide) ?_
        exact ih6 (y3_l6 + 1) (upd z_now_l6 ((0 : Int32) + y3_l6).toNatClampNeg y3_l6) _ _ _ h hW hS (lv_sub hl [1, 2, 3, 0] rfl)
  exact w6 N 0 z_now_1 _ _ _ h hW hS (lv_sub hl [1, 2, 3, 0] rfl)
def f_X8_fits_j61 {ρ : Type} (y1_l4 : Int32) (y2_l4 : Int32) (z_ringed_e49 : Int32) (z_lumps_e49 : Int32) (z_now_e49 : Nat → Int32) (z_gave_e49 : Nat → Int32) (z_at_e49 : Nat → Int32) (kb4 : Int32 → Int32 → Int32 → Int32 → (Nat → Int32) → (Nat → Int32) → (Nat → Int32) → Option ρ) (s1_j61 : Int32) : Option ρ := kb4 (y1_l4 ||| s1_j61) (y2_l4 + 1) z_ringed_e49 z_lumps_e49 z_now_e49 z_gave_e49 z_at_e49
def f_X8_fits_e49 {ρ : Type} (y1_l4 : Int32) (y2_l4 : Int32) (kb4 : Int32 → Int32 → Int32 → Int32 → (Nat → Int32) → (Nat → Int32) → (Nat → Int32) → Option ρ) (y3_e49 : Int32) (z_ringed_e49 : Int32) (z_lumps_e49 : Int32) (z_now_e49 : Nat → Int32) (z_gave_e49 : Nat → Int32) (z_at_e49 : Nat → Int32) : Option ρ := if y3_e49 = 0 then (f_X8_fits_j61 y1_l4 y2_l4 z_ringed_e49 z_lumps_e49 z_now_e49 z_gave_e49 z_at_e49 kb4 0) else (f_X8_fits_j61 y1_l4 y2_l4 z_ringed_e49 z_lumps_e49 z_now_e49 z_gave_e49 z_at_e49 kb4 ((1 : Int32) <<< (y2_l4 &&& 31)))
def f_X8_fits_j41 {ρ : Type} (y4_l14 : Int32) (kb14 : Int32 → Int32 → Int32 → Int32 → (Nat → Int32) → (Nat → Int32) → (Nat → Int32) → Option ρ) (z_ringed_j41 : Int32) (z_lumps_j41 : Int32) (z_now_j41 : Nat → Int32) (z_gave_j41 : Nat → Int32) (z_at_j41 : Nat → Int32) : Option ρ := kb14 0 (y4_l14 + 1) z_ringed_j41 z_lumps_j41 z_now_j41 z_gave_j41 z_at_j41
def f_X8_fits_l14 {ρ : Type} (z_people : Int32) (z_toldMany : Int32) (z_st : Nat → Int32) (z_told : Nat → Int32) (z_wantsMany : Nat → Int32) (z_wants : Nat → Int32) (z_weight : Nat → Int32) (y2_l4 : Int32) (k49 : Int32 → Int32 → Int32 → (Nat → Int32) → (Nat → Int32) → (Nat → Int32) → Option ρ) (N : Nat) : Nat → Int32 → Int32 → Int32 → Int32 → (Nat → Int32) → (Nat → Int32) → (Nat → Int32) → Option ρ
  | 0, _, _, _, _, _, _, _ => none
  | n14 + 1, y3_l14, y4_l14, z_ringed_l14, z_lumps_l14, z_now_l14, z_gave_l14, z_at_l14 => if z_toldMany ≤ y4_l14 then (k49 y3_l14 z_ringed_l14 z_lumps_l14 z_now_l14 z_gave_l14 z_at_l14) else (if y3_l14 = 0 then (f_X8_fits_j41 y4_l14 (f_X8_fits_l14 z_people z_toldMany z_st z_told z_wantsMany z_wants z_weight y2_l4 k49 N n14) z_ringed_l14 z_lumps_l14 z_now_l14 z_gave_l14 z_at_l14) else (f_X8_isSo N z_people z_st z_now_l14 z_told z_gave_l14 z_wantsMany z_wants z_weight z_at_l14 y4_l14 y2_l4 (fun r31 z_ringed_31 z_lumps_31 z_now_31 z_gave_31 z_at_31 => if r31 = 0 then (f_X8_fits_j41 y4_l14 (f_X8_fits_l14 z_people z_toldMany z_st z_told z_wantsMany z_wants z_weight y2_l4 k49 N n14) z_ringed_31 z_lumps_31 z_now_31 z_gave_31 z_at_31) else ((f_X8_fits_l14 z_people z_toldMany z_st z_told z_wantsMany z_wants z_weight y2_l4 k49 N n14) 1 (y4_l14 + 1) z_ringed_31 z_lumps_31 z_now_31 z_gave_31 z_at_31))))
def f_X8_fits_l4 {ρ : Type} (z_people : Int32) (z_toldMany : Int32) (z_st : Nat → Int32) (z_told : Nat → Int32) (z_wantsMany : Nat → Int32) (z_wants : Nat → Int32) (z_weight : Nat → Int32) (k : Int32 → Int32 → Int32 → (Nat → Int32) → (Nat → Int32) → (Nat → Int32) → Option ρ) (N : Nat) : Nat → Int32 → Int32 → Int32 → Int32 → (Nat → Int32) → (Nat → Int32) → (Nat → Int32) → Option ρ
  | 0, _, _, _, _, _, _, _ => none
  | n4 + 1, y1_l4, y2_l4, z_ringed_l4, z_lumps_l4, z_now_l4, z_gave_l4, z_at_l4 => if 3 ≤ y2_l4 then (k y1_l4 z_ringed_l4 z_lumps_l4 z_now_l4 z_gave_l4 z_at_l4) else (f_X8_fits_l14 z_people z_toldMany z_st z_told z_wantsMany z_wants z_weight y2_l4 (fun y3_e49 z_ringed_e49 z_lumps_e49 z_now_e49 z_gave_e49 z_at_e49 => f_X8_fits_e49 y1_l4 y2_l4 (f_X8_fits_l4 z_people z_toldMany z_st z_told z_wantsMany z_wants z_weight k N n4) y3_e49 z_ringed_e49 z_lumps_e49 z_now_e49 z_gave_e49 z_at_e49) N N 1 0 z_ringed_l4 z_lumps_l4 z_now_l4 z_gave_l4 z_at_l4)
def f_X8_fits {ρ : Type} (N : Nat) (z_people : Int32) (z_toldMany : Int32) (z_ringed : Int32) (z_lumps : Int32) (z_st : Nat → Int32) (z_now : Nat → Int32) (z_told : Nat → Int32) (z_gave : Nat → Int32) (z_wantsMany : Nat → Int32) (z_wants : Nat → Int32) (z_weight : Nat → Int32) (z_at : Nat → Int32) (k : Int32 → Int32 → Int32 → (Nat → Int32) → (Nat → Int32) → (Nat → Int32) → Option ρ) : Option ρ := f_X8_fits_l4 z_people z_toldMany z_st z_told z_wantsMany z_wants z_weight k N N 0 0 z_ringed z_lumps z_now z_gave z_at
abbrev w_X8_fits (cI cZ cQ cW : ClassId) (z_o : Nat) (z_weight_a : Nat) (z_wants_a : Nat) (z_wantsMany_a : Nat) (z_st_a : Nat) (z_was_a : Nat) (z_images_a : Nat) (z_isKept_a : Nat) (z_told_a : Nat) (z_text_a : Nat) (z_saidWeight_a : Nat) (z_saidNights_a : Nat) (z_saidWants_a : Nat) (z_saidMany_a : Nat) (z_now_a : Nat) (z_gave_a : Nat) (z_at_a : Nat) (z_way_a : Nat) (z_bestWay_a : Nat) (z_made_a : Nat) (z_people : Int32) (z_known : Int32) (z_toldMany : Int32) (z_trace : Int64) (z_texted : Int32) (z_cursor : Int32) (z_start : Int32) (z_token : Int32) (z_number : Int32) (z_isWrong : Int32) (z_items : Int32) (z_saidPeople : Int32) (z_saidLaw : Int32) (z_ringed : Int32) (z_lumps : Int32) (z_st : Nat → Int32) (z_now : Nat → Int32) (z_told : Nat → Int32) (z_gave : Nat → Int32) (z_wantsMany : Nat → Int32) (z_wants : Nat → Int32) (z_weight : Nat → Int32) (z_at : Nat → Int32) : va_W := [(z_o, .inr (8, [.int z_people, .ref z_weight_a, .ref z_wants_a, .ref z_wantsMany_a, .ref z_st_a, .ref z_was_a, .int z_known, .ref z_images_a, .ref z_isKept_a, .int z_toldMany, .ref z_told_a, .long z_trace, .ref z_text_a, .int z_texted, .int z_cursor, .int z_start, .int z_token, .int z_number, .int z_isWrong, .int z_items, .int z_saidPeople, .ref z_saidWeight_a, .ref z_saidNights_a, .ref z_saidWants_a, .ref z_saidMany_a, .int z_saidLaw, .ref z_now_a, .ref z_gave_a, .ref z_at_a, .int z_ringed, .int z_lumps, .ref z_way_a, .ref z_bestWay_a, .ref z_made_a])), (z_st_a, .inl (cI, 25, .inl z_st)), (z_now_a, .inl (cI, 25, .inl z_now)), (z_told_a, .inl (cI, 18, .inl z_told)), (z_gave_a, .inl (cI, 6, .inl z_gave)), (z_wantsMany_a, .inl (cI, 6, .inl z_wantsMany)), (z_wants_a, .inl (cI, 24, .inl z_wants)), (z_weight_a, .inl (cI, 6, .inl z_weight)), (z_at_a, .inl (cI, 6, .inl z_at))]
abbrev rm_X8_fits : Room := { frames := 5, cells := 0, slots := 0, locals := 124 }
set_option maxHeartbeats 4000000 in
set_option maxRecDepth 100000 in
theorem c_X8_fits (l : Launch) (dC : Nat → ClassId) (dI : Nat → Nat → Nat) (cI cZ cQ cW : ClassId) (z_o : Nat) (z_weight_a : Nat) (z_wants_a : Nat) (z_wantsMany_a : Nat) (z_st_a : Nat) (z_was_a : Nat) (z_images_a : Nat) (z_isKept_a : Nat) (z_told_a : Nat) (z_text_a : Nat) (z_saidWeight_a : Nat) (z_saidNights_a : Nat) (z_saidWants_a : Nat) (z_saidMany_a : Nat) (z_now_a : Nat) (z_gave_a : Nat) (z_at_a : Nat) (z_way_a : Nat) (z_bestWay_a : Nat) (z_made_a : Nat) (z_people : Int32) (z_known : Int32) (z_toldMany : Int32) (z_trace : Int64) (z_texted : Int32) (z_cursor : Int32) (z_start : Int32) (z_token : Int32) (z_number : Int32) (z_isWrong : Int32) (z_items : Int32) (z_saidPeople : Int32) (z_saidLaw : Int32) (z_ringed : Int32) (z_lumps : Int32) (z_st : Nat → Int32) (z_now : Nat → Int32) (z_told : Nat → Int32) (z_gave : Nat → Int32) (z_wantsMany : Nat → Int32) (z_wants : Nat → Int32) (z_weight : Nat → Int32) (z_at : Nat → Int32) {ρ : Type} (N : Nat) (k : Int32 → Int32 → Int32 → (Nat → Int32) → (Nat → Int32) → (Nat → Int32) → Option ρ) (res : ρ) (h : f_X8_fits N z_people z_toldMany z_ringed z_lumps z_st z_now z_told z_gave z_wantsMany z_wants z_weight z_at k = some res) : Ci l yX8_fits (WS yX8_fits cX8_fits 5 (some .int)) rm_X8_fits (dC, dI) (tysG cI cZ cQ cW) E0 [.ref z_o] (w_X8_fits cI cZ cQ cW z_o z_weight_a z_wants_a z_wantsMany_a z_st_a z_was_a z_images_a z_isKept_a z_told_a z_text_a z_saidWeight_a z_saidNights_a z_saidWants_a z_saidMany_a z_now_a z_gave_a z_at_a z_way_a z_bestWay_a z_made_a z_people z_known z_toldMany z_trace z_texted z_cursor z_start z_token z_number z_isWrong z_items z_saidPeople z_saidLaw z_ringed z_lumps z_st z_now z_told z_gave z_wantsMany z_wants z_weight z_at) (fun (u : Int32 × Int32 × (Nat → Int32) × (Nat → Int32) × (Nat → Int32)) => (w_X8_fits cI cZ cQ cW z_o z_weight_a z_wants_a z_wantsMany_a z_st_a z_was_a z_images_a z_isKept_a z_told_a z_text_a z_saidWeight_a z_saidNights_a z_saidWants_a z_saidMany_a z_now_a z_gave_a z_at_a z_way_a z_bestWay_a z_made_a z_people z_known z_toldMany z_trace z_texted z_cursor z_start z_token z_number z_isWrong z_items z_saidPeople z_saidLaw u.1 u.2.1 z_st u.2.2.1 z_told u.2.2.2.1 z_wantsMany z_wants z_weight u.2.2.2.2)) (fun r u => k r u.1 u.2.1 u.2.2.1 u.2.2.2.1 u.2.2.2.2 = some res) := by
  refine Ci.of (cc := cX8_fits) (n := 5) (by decide +kernel) (Nat.le_of_ble_eq_true rfl) ?_
  intro p e s m args below meth c A ls Q B hW hE hS hl hQ
  have hx := B.1
  have hb := B.2.1
  have hl : lv_has ls 5 [(0, .ref z_o)] := hl
  unfold f_X8_fits at h
  refine lv_iconst (pc := 0) (v := 0) hx hb (tb_at tk_X8_fits 0 rfl) (by decide) ?_
  refine lv_istore_n (pc := 1) (lv' := [(1, .int 0), (0, .ref z_o)]) hx hb (tb_at tk_X8_fits 1 rfl) rfl hl (by decide) rfl (fun ls hl => ?_)
  refine lv_iconst (pc := 2) (v := 0) hx hb (tb_at tk_X8_fits 2 rfl) (by decide) ?_
  refine lv_istore_n (pc := 3) (lv' := [(2, .int 0), (1, .int 0), (0, .ref z_o)]) hx hb (tb_at tk_X8_fits 3 rfl) rfl hl (by decide) rfl (fun ls hl => ?_)
  have w4 : ∀ (n : Nat), ∀ (y1_l4 : Int32) (y2_l4 : Int32) (z_ringed_l4 : Int32) (z_lumps_l4 : Int32) (z_now_l4 : Nat → Int32) (z_gave_l4 : Nat → Int32) (z_at_l4 : Nat → Int32) (H : Heap) (locs : List Loc) (ls : Array Slot), f_X8_fits_l4 z_people z_toldMany z_st z_told z_wantsMany z_wants z_weight k N n y1_l4 y2_l4 z_ringed_l4 z_lumps_l4 z_now_l4 z_gave_l4 z_at_l4 = some res → PD (dC, dI) A (w_X8_fits cI cZ cQ cW z_o z_weight_a z_wants_a z_wantsMany_a z_st_a z_was_a z_images_a z_isKept_a z_told_a z_text_a z_saidWeight_a z_saidNights_a z_saidWants_a z_saidMany_a z_now_a z_gave_a z_at_a z_way_a z_bestWay_a z_made_a z_people z_known z_toldMany z_trace z_texted z_cursor z_start z_token z_number z_isWrong z_items z_saidPeople z_saidLaw z_ringed_l4 z_lumps_l4 z_st z_now_l4 z_told z_gave_l4 z_wantsMany z_wants z_weight z_at_l4) H → va_S A s.heap H locs → lv_has ls 5 [(0, .ref z_o), (1, .int y1_l4), (2, .int y2_l4)] → W p l e rm_X8_fits s m args below meth c H locs 0 0 Q (F0 m 4 ls []) := by
    intro n
    induction n with
    | zero => intro y1_l4 y2_l4 z_ringed_l4 z_lumps_l4 z_now_l4 z_gave_l4 z_at_l4 H locs ls h; exact no_n h
    | succ n4 ih4 =>
      intro y1_l4 y2_l4 z_ringed_l4 z_lumps_l4 z_now_l4 z_gave_l4 z_at_l4 H locs ls h hW hS hl
      rw [f_X8_fits_l4] at h
      refine lv_iload_n (pc := 4) hx hb (tb_at tk_X8_fits 4 rfl) rfl (lv_at hl 2 rfl) ?_
      refine lv_iconst (pc := 5) (v := 3) hx hb (tb_at tk_X8_fits 5 rfl) (by decide) ?_
      refine lv_icmp_ge (pc := 6) (tgt := 69) hx hb (tb_at tk_X8_fits 6 rfl) (by decide) (fun cc => ?_) (fun cc => ?_)
      · have h := it_t cc h
        refine lv_iload_n (pc := 69) hx hb (tb_at tk_X8_fits 40 rfl) rfl (lv_at hl 1 rfl) ?_
        exact hQ y1_l4 (z_ringed_l4, z_lumps_l4, z_now_l4, z_gave_l4, z_at_l4) _ _ _ 70 rfl h hW hS (tb_at tk_X8_fits 41 rfl)
      · have h := it_f cc h
        refine lv_iconst (pc := 9) (v := 1) hx hb (tb_at tk_X8_fits 7 rfl) (by decide) ?_
        refine lv_istore_n (pc := 10) (lv' := [(3, .int 1), (0, .ref z_o), (1, .int y1_l4), (2, .int y2_l4)]) hx hb (tb_at tk_X8_fits 8 rfl) rfl hl (by decide) rfl (fun ls hl => ?_)
        refine lv_iconst (pc := 11) (v := 0) hx hb (tb_at tk_X8_fits 9 rfl) (by decide) ?_
        refine lv_istore (pc := 12) (lv' := [(4, .int 0), (3, .int 1), (0, .ref z_o), (1, .int y1_l4), (2, .int y2_l4)]) hx hb (tb_at tk_X8_fits 10 rfl) hl (by decide) rfl (fun ls hl => ?_)
        have w49 : ∀ (y3_e49 : Int32) (z_ringed_e49 : Int32) (z_lumps_e49 : Int32) (z_now_e49 : Nat → Int32) (z_gave_e49 : Nat → Int32) (z_at_e49 : Nat → Int32) (H : Heap) (locs : List Loc) (ls : Array Slot), f_X8_fits_e49 y1_l4 y2_l4 (f_X8_fits_l4 z_people z_toldMany z_st z_told z_wantsMany z_wants z_weight k N n4) y3_e49 z_ringed_e49 z_lumps_e49 z_now_e49 z_gave_e49 z_at_e49 = some res → PD (dC, dI) A (w_X8_fits cI cZ cQ cW z_o z_weight_a z_wants_a z_wantsMany_a z_st_a z_was_a z_images_a z_isKept_a z_told_a z_text_a z_saidWeight_a z_saidNights_a z_saidWants_a z_saidMany_a z_now_a z_gave_a z_at_a z_way_a z_bestWay_a z_made_a z_people z_known z_toldMany z_trace z_texted z_cursor z_start z_token z_number z_isWrong z_items z_saidPeople z_saidLaw z_ringed_e49 z_lumps_e49 z_st z_now_e49 z_told z_gave_e49 z_wantsMany z_wants z_weight z_at_e49) H → va_S A s.heap H locs → lv_has ls 5 [(0, .ref z_o), (1, .int y1_l4), (2, .int y2_l4), (3, .int y3_e49)] → W p l e rm_X8_fits s m args below meth c H locs 0 0 Q (F0 m 49 ls []) := by
          intro y3_e49 z_ringed_e49 z_lumps_e49 z_now_e49 z_gave_e49 z_at_e49 H locs ls h hW hS hl
          unfold f_X8_fits_e49 at h
          refine lv_iload_n (pc := 49) hx hb (tb_at tk_X8_fits 28 rfl) rfl (lv_at hl 1 rfl) ?_
          refine lv_iload_n (pc := 50) hx hb (tb_at tk_X8_fits 29 rfl) rfl (lv_at hl 3 rfl) ?_
          have w61 : ∀ (s1_j61 : Int32) (H : Heap) (locs : List Loc) (ls : Array Slot), f_X8_fits_j61 y1_l4 y2_l4 z_ringed_e49 z_lumps_e49 z_now_e49 z_gave_e49 z_at_e49 (f_X8_fits_l4 z_people z_toldMany z_st z_told z_wantsMany z_wants z_weight k N n4) s1_j61 = some res → PD (dC, dI) A (w_X8_fits cI cZ cQ cW z_o z_weight_a z_wants_a z_wantsMany_a z_st_a z_was_a z_images_a z_isKept_a z_told_a z_text_a z_saidWeight_a z_saidNights_a z_saidWants_a z_saidMany_a z_now_a z_gave_a z_at_a z_way_a z_bestWay_a z_made_a z_people z_known z_toldMany z_trace z_texted z_cursor z_start z_token z_number z_isWrong z_items z_saidPeople z_saidLaw z_ringed_e49 z_lumps_e49 z_st z_now_e49 z_told z_gave_e49 z_wantsMany z_wants z_weight z_at_e49) H → va_S A s.heap H locs → lv_has ls 5 [(0, .ref z_o), (2, .int y2_l4)] → W p l e rm_X8_fits s m args below meth c H locs 0 0 Q (F0 m 61 ls [.int s1_j61, .int y1_l4]) := by
            intro s1_j61 H locs ls h hW hS hl
            unfold f_X8_fits_j61 at h
            refine lv_ior (pc := 61) hx hb (tb_at tk_X8_fits 36 rfl) ?_
            refine lv_istore_n (pc := 62) (lv' := [(1, .int (y1_l4 ||| s1_j61)), (0, .ref z_o), (2, .int y2_l4)]) hx hb (tb_at tk_X8_fits 37 rfl) rfl hl (by decide) rfl (fun ls hl => ?_)
            refine lv_iinc (pc := 63) (v := y2_l4 + 1) (lv' := [(2, .int (y2_l4 + 1)), (1, .int (y1_l4 ||| s1_j61)), (0, .ref z_o)]) hx hb (tb_at tk_X8_fits 38 rfl) hl (k := 2) rfl rfl (by decide) rfl (fun ls hl => ?_)
            refine lv_goto (pc := 66) (tgt := 4) hx hb (tb_at tk_X8_fits 39 rfl) (by decide) ?_
            exact ih4 (y1_l4 ||| s1_j61) (y2_l4 + 1) z_ringed_e49 z_lumps_e49 z_now_e49 z_gave_e49 z_at_e49 _ _ _ h hW hS (lv_sub hl [2, 1, 0] rfl)
          refine lv_if_eq (pc := 51) (tgt := 60) hx hb (tb_at tk_X8_fits 30 rfl) (by decide) (fun cc => ?_) (fun cc => ?_)
          · have h := it_t cc h
            refine lv_iconst (pc := 60) (v := 0) hx hb (tb_at tk_X8_fits 35 rfl) (by decide) ?_
            exact w61 0 _ _ _ h hW hS (lv_sub hl [0, 2] rfl)
          · have h := it_f cc h
            refine lv_iconst (pc := 54) (v := 1) hx hb (tb_at tk_X8_fits 31 rfl) (by decide) ?_
            refine lv_iload_n (pc := 55) hx hb (tb_at tk_X8_fits 32 rfl) rfl (lv_at hl 2 rfl) ?_
            refine lv_ishl (pc := 56) hx hb (tb_at tk_X8_fits 33 rfl) ?_
            refine lv_goto (pc := 57) (tgt := 61) hx hb (tb_at tk_X8_fits 34 rfl) (by decide) ?_
            exact w61 ((1 : Int32) <<< (y2_l4 &&& 31)) _ _ _ h hW hS (lv_sub hl [0, 2] rfl)
        have w14 : ∀ (n : Nat), ∀ (y3_l14 : Int32) (y4_l14 : Int32) (z_ringed_l14 : Int32) (z_lumps_l14 : Int32) (z_now_l14 : Nat → Int32) (z_gave_l14 : Nat → Int32) (z_at_l14 : Nat → Int32) (H : Heap) (locs : List Loc) (ls : Array Slot), f_X8_fits_l14 z_people z_toldMany z_st z_told z_wantsMany z_wants z_weight y2_l4 (fun y3_e49 z_ringed_e49 z_lumps_e49 z_now_e49 z_gave_e49 z_at_e49 => f_X8_fits_e49 y1_l4 y2_l4 (f_X8_fits_l4 z_people z_toldMany z_st z_told z_wantsMany z_wants z_weight k N n4) y3_e49 z_ringed_e49 z_lumps_e49 z_now_e49 z_gave_e49 z_at_e49) N n y3_l14 y4_l14 z_ringed_l14 z_lumps_l14 z_now_l14 z_gave_l14 z_at_l14 = some res → PD (dC, dI) A (w_X8_fits cI cZ cQ cW z_o z_weight_a z_wants_a z_wantsMany_a z_st_a z_was_a z_images_a z_isKept_a z_told_a z_text_a z_saidWeight_a z_saidNights_a z_saidWants_a z_saidMany_a z_now_a z_gave_a z_at_a z_way_a z_bestWay_a z_made_a z_people z_known z_toldMany z_trace z_texted z_cursor z_start z_token z_number z_isWrong z_items z_saidPeople z_saidLaw z_ringed_l14 z_lumps_l14 z_st z_now_l14 z_told z_gave_l14 z_wantsMany z_wants z_weight z_at_l14) H → va_S A s.heap H locs → lv_has ls 5 [(0, .ref z_o), (1, .int y1_l4), (2, .int y2_l4), (3, .int y3_l14), (4, .int y4_l14)] → W p l e rm_X8_fits s m args below meth c H locs 0 0 Q (F0 m 14 ls []) := by
          intro n
          induction n with
          | zero => intro y3_l14 y4_l14 z_ringed_l14 z_lumps_l14 z_now_l14 z_gave_l14 z_at_l14 H locs ls h; exact no_n h
          | succ n14 ih14 =>
            intro y3_l14 y4_l14 z_ringed_l14 z_lumps_l14 z_now_l14 z_gave_l14 z_at_l14 H locs ls h hW hS hl
            rw [f_X8_fits_l14] at h
            refine lv_iload (pc := 14) hx hb (tb_at tk_X8_fits 11 rfl) (lv_at hl 4 rfl) ?_
            refine lv_aload_n (pc := 16) hx hb (tb_at tk_X8_fits 12 rfl) rfl (lv_at hl 0 rfl) ?_
            refine k_get (pc := 17) (v := .int z_toldMany) (T := TX8) B inG8 hW 0 rfl rfl 9 (by decide) q_f_X8_138 rfl rfl (tb_at tk_X8_fits 13 rfl) ?_
            refine lv_icmp_ge (pc := 20) (tgt := 49) hx hb (tb_at tk_X8_fits 14 rfl) (by decide) (fun cc => ?_) (fun cc => ?_)
            · have h := it_t cc h
              exact w49 y3_l14 z_ringed_l14 z_lumps_l14 z_now_l14 z_gave_l14 z_at_l14 _ _ _ h hW hS (lv_sub hl [0, 1, 2, 3] rfl)
            · have h := it_f cc h
              refine lv_iload_n (pc := 23) hx hb (tb_at tk_X8_fits 15 rfl) rfl (lv_at hl 3 rfl) ?_
              have w41 : ∀ (z_ringed_j41 : Int32) (z_lumps_j41 : Int32) (z_now_j41 : Nat → Int32) (z_gave_j41 : Nat → Int32) (z_at_j41 : Nat → Int32) (H : Heap) (locs : List Loc) (ls : Array Slot), f_X8_fits_j41 y4_l14 (f_X8_fits_l14 z_people z_toldMany z_st z_told z_wantsMany z_wants z_weight y2_l4 (fun y3_e49 z_ringed_e49 z_lumps_e49 z_now_e49 z_gave_e49 z_at_e49 => f_X8_fits_e49 y1_l4 y2_l4 (f_X8_fits_l4 z_people z_toldMany z_st z_told z_wantsMany z_wants z_weight k N n4) y3_e49 z_ringed_e49 z_lumps_e49 z_now_e49 z_gave_e49 z_at_e49) N n14) z_ringed_j41 z_lumps_j41 z_now_j41 z_gave_j41 z_at_j41 = some res → PD (dC, dI) A (w_X8_fits cI cZ cQ cW z_o z_weight_a z_wants_a z_wantsMany_a z_st_a z_was_a z_images_a z_isKept_a z_told_a z_text_a z_saidWeight_a z_saidNights_a z_saidWants_a z_saidMany_a z_now_a z_gave_a z_at_a z_way_a z_bestWay_a z_made_a z_people z_known z_toldMany z_trace z_texted z_cursor z_start z_token z_number z_isWrong z_items z_saidPeople z_saidLaw z_ringed_j41 z_lumps_j41 z_st z_now_j41 z_told z_gave_j41 z_wantsMany z_wants z_weight z_at_j41) H → va_S A s.heap H locs → lv_has ls 5 [(0, .ref z_o), (1, .int y1_l4), (2, .int y2_l4), (4, .int y4_l14)] → W p l e rm_X8_fits s m args below meth c H locs 0 0 Q (F0 m 41 ls []) := by
                intro z_ringed_j41 z_lumps_j41 z_now_j41 z_gave_j41 z_at_j41 H locs ls h hW hS hl
                unfold f_X8_fits_j41 at h
                refine lv_iconst (pc := 41) (v := 0) hx hb (tb_at tk_X8_fits 24 rfl) (by decide) ?_
                refine lv_istore_n (pc := 42) (lv' := [(3, .int 0), (0, .ref z_o), (1, .int y1_l4), (2, .int y2_l4), (4, .int y4_l14)]) hx hb (tb_at tk_X8_fits 25 rfl) rfl hl (by decide) rfl (fun ls hl => ?_)
                refine lv_iinc (pc := 43) (v := y4_l14 + 1) (lv' := [(4, .int (y4_l14 + 1)), (3, .int 0), (0, .ref z_o), (1, .int y1_l4), (2, .int y2_l4)]) hx hb (tb_at tk_X8_fits 26 rfl) hl (k := 4) rfl rfl (by decide) rfl (fun ls hl => ?_)
                refine lv_goto (pc := 46) (tgt := 14) hx hb (tb_at tk_X8_fits 27 rfl) (by decide) ?_
                exact ih14 0 (y4_l14 + 1) z_ringed_j41 z_lumps_j41 z_now_j41 z_gave_j41 z_at_j41 _ _ _ h hW hS (lv_sub hl [2, 3, 4, 1, 0] rfl)
              refine lv_if_eq (pc := 24) (tgt := 41) hx hb (tb_at tk_X8_fits 16 rfl) (by decide) (fun cc => ?_) (fun cc => ?_)
              · have h := it_t cc h
                exact w41 z_ringed_l14 z_lumps_l14 z_now_l14 z_gave_l14 z_at_l14 _ _ _ h hW hS (lv_sub hl [0, 1, 2, 4] rfl)
              · have h := it_f cc h
                refine lv_aload_n (pc := 27) hx hb (tb_at tk_X8_fits 17 rfl) rfl (lv_at hl 0 rfl) ?_
                refine lv_iload (pc := 28) hx hb (tb_at tk_X8_fits 18 rfl) (lv_at hl 4 rfl) ?_
                refine lv_iload_n (pc := 30) hx hb (tb_at tk_X8_fits 19 rfl) rfl (lv_at hl 2 rfl) ?_
                refine k_calli (pc := 31) B (k_runVi (rest := []) (C := RX8) B (c_X8_isSo l dC dI cI cZ cQ cW z_o z_weight_a z_wants_a z_wantsMany_a z_st_a z_was_a z_images_a z_isKept_a z_told_a z_text_a z_saidWeight_a z_saidNights_a z_saidWants_a z_saidMany_a z_now_a z_gave_a z_at_a z_way_a z_bestWay_a z_made_a z_people z_known z_toldMany z_trace z_texted z_cursor z_start z_token z_number z_isWrong z_items z_saidPeople z_saidLaw z_ringed_l14 z_lumps_l14 z_st z_now_l14 z_told z_gave_l14 z_wantsMany z_wants z_weight z_at_l14 y4_l14 y2_l4 N _ res h) E0_st (fun _ _ _ => trivial) q_c_X8_isSo q_m_X8_206 q_i_X8_isSo q_s_X8_isSo q_n_X8 hd_X8_isSo ⟨rfl, rfl⟩ ⟨Nat.le_of_ble_eq_true rfl, Nat.le_of_ble_eq_true rfl⟩ hW [0, 1, 2, 3, 4, 5, 6, 7, 8] rfl (by decide +kernel) (q0 := 0) (ci := 8) rfl rfl rfl hl.1 rfl (Nat.le_of_ble_eq_true rfl) (tb_at tk_X8_fits 20 rfl) ⟨Nat.zero_le _, Nat.zero_le _⟩) hW hS [0, 1, 2, 3, 4, 5, 6, 7, 8] rfl [z_o, z_st_a, z_now_a, z_told_a, z_gave_a, z_wantsMany_a, z_wants_a, z_weight_a, z_at_a] rfl (fun _ => rfl) [some 0, some 1, some 2, some 3, some 4, some 5, some 6, some 7, some 8] (by decide +kernel) (fun u => (w_X8_fits cI cZ cQ cW z_o z_weight_a z_wants_a z_wantsMany_a z_st_a z_was_a z_images_a z_isKept_a z_told_a z_text_a z_saidWeight_a z_saidNights_a z_saidWants_a z_saidMany_a z_now_a z_gave_a z_at_a z_way_a z_bestWay_a z_made_a z_people z_known z_toldMany z_trace z_texted z_cursor z_start z_token z_number z_isWrong z_items z_saidPeople z_saidLaw u.1 u.2.1 z_st u.2.2.1 z_told u.2.2.2.1 z_wantsMany z_wants z_weight u.2.2.2.2)) (fun _ => rfl) (fun r31 u H locs h hW hS => ?_)
                obtain ⟨z_ringed_31, z_lumps_31, z_now_31, z_gave_31, z_at_31⟩ := u
                dsimp only at h
                have hW : PD (dC, dI) A (w_X8_fits cI cZ cQ cW z_o z_weight_a z_wants_a z_wantsMany_a z_st_a z_was_a z_images_a z_isKept_a z_told_a z_text_a z_saidWeight_a z_saidNights_a z_saidWants_a z_saidMany_a z_now_a z_gave_a z_at_a z_way_a z_bestWay_a z_made_a z_people z_known z_toldMany z_trace z_texted z_cursor z_start z_token z_number z_isWrong z_items z_saidPeople z_saidLaw z_ringed_31 z_lumps_31 z_st z_now_31 z_told z_gave_31 z_wantsMany z_wants z_weight z_at_31) H := hW
                refine lv_if_eq (pc := 34) (tgt := 41) hx hb (tb_at tk_X8_fits 21 rfl) (by decide) (fun cc => ?_) (fun cc => ?_)
                · have h := it_t cc h
                  exact w41 z_ringed_31 z_lumps_31 z_now_31 z_gave_31 z_at_31 _ _ _ h hW hS (lv_sub hl [0, 1, 2, 4] rfl)
                · have h := it_f cc h
                  refine lv_iconst (pc := 37) (v := 1) hx hb (tb_at tk_X8_fits 22 rfl) (by decide) ?_
                  refine lv_goto (pc := 38) (tgt := 42) hx hb (tb_at tk_X8_fits 23 rfl) (by decide) ?_
                  refine lv_istore_n (pc := 42) (lv' := [(3, .int 1), (0, .ref z_o), (1, .int y1_l4), (2, .int y2_l4), (4, .int y4_l14)]) hx hb (tb_at tk_X8_fits 25 rfl) rfl hl (by decide) rfl (fun ls hl => ?_)
                  refine lv_iinc (pc := 43) (v := y4_l14 + 1) (lv' := [(4, .int (y4_l14 + 1)), (3, .int 1), (0, .ref z_o), (1, .int y1_l4), (2, .int y2_l4)]) hx hb (tb_at tk_X8_fits 26 rfl) hl (k := 4) rfl rfl (by decide) rfl (fun ls hl => ?_)
                  refine lv_goto (pc := 46) (tgt := 14) hx hb (tb_at tk_X8_fits 27 rfl) (by decide) ?_
                  exact ih14 1 (y4_l14 + 1) z_ringed_31 z_lumps_31 z_now_31 z_gave_31 z_at_31 _ _ _ h hW hS (lv_sub hl [2, 3, 4, 1, 0] rfl)
        exact w14 N 1 0 z_ringed_l4 z_lumps_l4 z_now_l4 z_gave_l4 z_at_l4 _ _ _ h hW hS (lv_sub hl [2, 3, 4, 1, 0] rfl)
  exact w4 N 0 0 z_ringed z_lumps z_now z_gave z_at _ _ _ h hW hS (lv_sub hl [2, 1, 0] rfl)
def f_X8_stop_e115 {ρ : Type} (x5 : Int32) (k : Int32 → Option ρ) (N : Nat) (y6_e115 : Int32) (y7_e115 : Int32) : Option ρ := f_X8_lowest N y6_e115 y7_e115 x5 (fun r121 => k r121)
def f_X8_stop_j100 {ρ : Type} (y7_l61 : Int32) (y8_l61 : Int32) (kb61 : Int32 → Int32 → Int32 → Option ρ) (s0_j100 : Int32) : Option ρ := kb61 s0_j100 (y7_l61 * 10) (y8_l61 + 1)
def f_X8_stop_l61 {ρ : Type} (x1 : Int32) (x2 : Int32) (x3 : Int32) (x4 : Int32) (k115 : Int32 → Int32 → Option ρ) : Nat → Int32 → Int32 → Int32 → Option ρ
  | 0, _, _, _ => none
  | n61 + 1, y6_l61, y7_l61, y8_l61 => if x1 ≤ y8_l61 then (k115 y6_l61 y7_l61) else (if 0 ≤ ((((x2 * x3) - ((10 : Int32) * x4)) * y7_l61) + (((10 : Int32) - x2) * y6_l61)) then (f_X8_stop_j100 y7_l61 y8_l61 (f_X8_stop_l61 x1 x2 x3 x4 k115 n61) ((((x2 * x3) - ((10 : Int32) * x4)) * y7_l61) + (((10 : Int32) - x2) * y6_l61))) else (f_X8_stop_j100 y7_l61 y8_l61 (f_X8_stop_l61 x1 x2 x3 x4 k115 n61) 0))
def f_X8_stop {ρ : Type} (N : Nat) (x1 : Int32) (x2 : Int32) (x3 : Int32) (x4 : Int32) (x5 : Int32) (k : Int32 → Option ρ) : Option ρ := f_X8_in N x1 0 5 (fun r3 => if r3 = 0 then (k (-1)) else (f_X8_in N x2 0 10 (fun r13 => if r13 = 0 then (k (-1)) else (f_X8_in N x3 0 99 (fun r23 => if r23 = 0 then (k (-1)) else (f_X8_in N x4 0 99 (fun r34 => if r34 = 0 then (k (-1)) else (f_X8_in N x5 0 1 (fun r44 => if r44 = 0 then (k (-1)) else (f_X8_stop_l61 x1 x2 x3 x4 (fun y6_e115 y7_e115 => f_X8_stop_e115 x5 k N y6_e115 y7_e115) N 0 1 0))))))))))
abbrev w_X8_stop (cI cZ cQ cW : ClassId) (z_o : Nat) (z_weight_a : Nat) (z_wants_a : Nat) (z_wantsMany_a : Nat) (z_st_a : Nat) (z_was_a : Nat) (z_images_a : Nat) (z_isKept_a : Nat) (z_told_a : Nat) (z_text_a : Nat) (z_saidWeight_a : Nat) (z_saidNights_a : Nat) (z_saidWants_a : Nat) (z_saidMany_a : Nat) (z_now_a : Nat) (z_gave_a : Nat) (z_at_a : Nat) (z_way_a : Nat) (z_bestWay_a : Nat) (z_made_a : Nat) (z_people : Int32) (z_known : Int32) (z_toldMany : Int32) (z_trace : Int64) (z_texted : Int32) (z_cursor : Int32) (z_start : Int32) (z_token : Int32) (z_number : Int32) (z_isWrong : Int32) (z_items : Int32) (z_saidPeople : Int32) (z_saidLaw : Int32) (z_ringed : Int32) (z_lumps : Int32) : va_W := [(z_o, .inr (8, [.int z_people, .ref z_weight_a, .ref z_wants_a, .ref z_wantsMany_a, .ref z_st_a, .ref z_was_a, .int z_known, .ref z_images_a, .ref z_isKept_a, .int z_toldMany, .ref z_told_a, .long z_trace, .ref z_text_a, .int z_texted, .int z_cursor, .int z_start, .int z_token, .int z_number, .int z_isWrong, .int z_items, .int z_saidPeople, .ref z_saidWeight_a, .ref z_saidNights_a, .ref z_saidWants_a, .ref z_saidMany_a, .int z_saidLaw, .ref z_now_a, .ref z_gave_a, .ref z_at_a, .int z_ringed, .int z_lumps, .ref z_way_a, .ref z_bestWay_a, .ref z_made_a]))]
abbrev rm_X8_stop : Room := { frames := 1, cells := 0, slots := 0, locals := 25 }
set_option maxHeartbeats 4000000 in
set_option maxRecDepth 100000 in
theorem c_X8_stop (l : Launch) (dC : Nat → ClassId) (dI : Nat → Nat → Nat) (cI cZ cQ cW : ClassId) (z_o : Nat) (z_weight_a : Nat) (z_wants_a : Nat) (z_wantsMany_a : Nat) (z_st_a : Nat) (z_was_a : Nat) (z_images_a : Nat) (z_isKept_a : Nat) (z_told_a : Nat) (z_text_a : Nat) (z_saidWeight_a : Nat) (z_saidNights_a : Nat) (z_saidWants_a : Nat) (z_saidMany_a : Nat) (z_now_a : Nat) (z_gave_a : Nat) (z_at_a : Nat) (z_way_a : Nat) (z_bestWay_a : Nat) (z_made_a : Nat) (z_people : Int32) (z_known : Int32) (z_toldMany : Int32) (z_trace : Int64) (z_texted : Int32) (z_cursor : Int32) (z_start : Int32) (z_token : Int32) (z_number : Int32) (z_isWrong : Int32) (z_items : Int32) (z_saidPeople : Int32) (z_saidLaw : Int32) (z_ringed : Int32) (z_lumps : Int32) (x1 : Int32) (x2 : Int32) (x3 : Int32) (x4 : Int32) (x5 : Int32) {ρ : Type} (N : Nat) (k : Int32 → Option ρ) (res : ρ) (h : f_X8_stop N x1 x2 x3 x4 x5 k = some res) : Ci l yX8_stop (WS yX8_stop cX8_stop 9 (some .int)) rm_X8_stop (dC, dI) (tysG cI cZ cQ cW) E0 [.ref z_o, .int x1, .int x2, .int x3, .int x4, .int x5] (w_X8_stop cI cZ cQ cW z_o z_weight_a z_wants_a z_wantsMany_a z_st_a z_was_a z_images_a z_isKept_a z_told_a z_text_a z_saidWeight_a z_saidNights_a z_saidWants_a z_saidMany_a z_now_a z_gave_a z_at_a z_way_a z_bestWay_a z_made_a z_people z_known z_toldMany z_trace z_texted z_cursor z_start z_token z_number z_isWrong z_items z_saidPeople z_saidLaw z_ringed z_lumps) (fun (_ : Unit) => (w_X8_stop cI cZ cQ cW z_o z_weight_a z_wants_a z_wantsMany_a z_st_a z_was_a z_images_a z_isKept_a z_told_a z_text_a z_saidWeight_a z_saidNights_a z_saidWants_a z_saidMany_a z_now_a z_gave_a z_at_a z_way_a z_bestWay_a z_made_a z_people z_known z_toldMany z_trace z_texted z_cursor z_start z_token z_number z_isWrong z_items z_saidPeople z_saidLaw z_ringed z_lumps)) (fun r _ => k r = some res) := by
  refine Ci.of (cc := cX8_stop) (n := 9) (by decide +kernel) (Nat.le_of_ble_eq_true rfl) ?_
  intro p e s m args below meth c A ls Q B hW hE hS hl hQ
  have hx := B.1
  have hb := B.2.1
  have hl : lv_has ls 9 [(0, .ref z_o), (1, .int x1), (2, .int x2), (3, .int x3), (4, .int x4), (5, .int x5)] := hl
  unfold f_X8_stop at h
  refine lv_iload_n (pc := 0) hx hb (tb_at tk_X8_stop 0 rfl) rfl (lv_at hl 1 rfl) ?_
  refine lv_iconst (pc := 1) (v := 0) hx hb (tb_at tk_X8_stop 1 rfl) (by decide) ?_
  refine lv_iconst (pc := 2) (v := 5) hx hb (tb_at tk_X8_stop 2 rfl) (by decide) ?_
  refine k_call0 (pc := 3) B (k_runSi (rest := []) (host := "") B (c_X8_in l dC dI cI cZ cQ cW   x1 0 5 N _ res h) E0_st (fun _ _ _ => trivial) q_c_X8_in q_m_X8_72 q_t_X8_in q_n_X8 hd_X8_in ⟨rfl, rfl⟩ ⟨Nat.le_of_ble_eq_true rfl, Nat.le_of_ble_eq_true rfl⟩ hW [] rfl (by decide +kernel) rfl hl.1 rfl (Nat.le_of_ble_eq_true rfl) (tb_at tk_X8_stop 3 rfl) ⟨Nat.zero_le _, Nat.zero_le _⟩) hW hS (fun r3 u H locs h hW hS => ?_)
  refine lv_if_eq (pc := 6) (tgt := 50) hx hb (tb_at tk_X8_stop 4 rfl) (by decide) (fun cc => ?_) (fun cc => ?_)
  · have h := it_t cc h
    refine lv_iconst (pc := 50) (v := (-1)) hx hb (tb_at tk_X8_stop 25 rfl) (by decide) ?_
    exact hQ (-1) () _ _ _ 51 rfl h hW hS (tb_at tk_X8_stop 26 rfl)
  · have h := it_f cc h
    refine lv_iload_n (pc := 9) hx hb (tb_at tk_X8_stop 5 rfl) rfl (lv_at hl 2 rfl) ?_
    refine lv_iconst (pc := 10) (v := 0) hx hb (tb_at tk_X8_stop 6 rfl) (by decide) ?_
    refine lv_bipush (pc := 11) (v := 10) hx hb (tb_at tk_X8_stop 7 rfl) (by decide) ?_
    refine k_call0 (pc := 13) B (k_runSi (rest := []) (host := "") B (c_X8_in l dC dI cI cZ cQ cW   x2 0 10 N _ res h) E0_st (fun _ _ _ => trivial) q_c_X8_in q_m_X8_72 q_t_X8_in q_n_X8 hd_X8_in ⟨rfl, rfl⟩ ⟨Nat.le_of_ble_eq_true rfl, Nat.le_of_ble_eq_true rfl⟩ hW [] rfl (by decide +kernel) rfl hl.1 rfl (Nat.le_of_ble_eq_true rfl) (tb_at tk_X8_stop 8 rfl) ⟨Nat.zero_le _, Nat.zero_le _⟩) hW hS (fun r13 u H locs h hW hS => ?_)
    refine lv_if_eq (pc := 16) (tgt := 50) hx hb (tb_at tk_X8_stop 9 rfl) (by decide) (fun cc => ?_) (fun cc => ?_)
    · have h := it_t cc h
      refine lv_iconst (pc := 50) (v := (-1)) hx hb (tb_at tk_X8_stop 25 rfl) (by decide) ?_
      exact hQ (-1) () _ _ _ 51 rfl h hW hS (tb_at tk_X8_stop 26 rfl)
    · have h := it_f cc h
      refine lv_iload_n (pc := 19) hx hb (tb_at tk_X8_stop 10 rfl) rfl (lv_at hl 3 rfl) ?_
      refine lv_iconst (pc := 20) (v := 0) hx hb (tb_at tk_X8_stop 11 rfl) (by decide) ?_
      refine lv_bipush (pc := 21) (v := 99) hx hb (tb_at tk_X8_stop 12 rfl) (by decide) ?_
      refine k_call0 (pc := 23) B (k_runSi (rest := []) (host := "") B (c_X8_in l dC dI cI cZ cQ cW   x3 0 99 N _ res h) E0_st (fun _ _ _ => trivial) q_c_X8_in q_m_X8_72 q_t_X8_in q_n_X8 hd_X8_in ⟨rfl, rfl⟩ ⟨Nat.le_of_ble_eq_true rfl, Nat.le_of_ble_eq_true rfl⟩ hW [] rfl (by decide +kernel) rfl hl.1 rfl (Nat.le_of_ble_eq_true rfl) (tb_at tk_X8_stop 13 rfl) ⟨Nat.zero_le _, Nat.zero_le _⟩) hW hS (fun r23 u H locs h hW hS => ?_)
      refine lv_if_eq (pc := 26) (tgt := 50) hx hb (tb_at tk_X8_stop 14 rfl) (by decide) (fun cc => ?_) (fun cc => ?_)
      · have h := it_t cc h
        refine lv_iconst (pc := 50) (v := (-1)) hx hb (tb_at tk_X8_stop 25 rfl) (by decide) ?_
        exact hQ (-1) () _ _ _ 51 rfl h hW hS (tb_at tk_X8_stop 26 rfl)
      · have h := it_f cc h
        refine lv_iload (pc := 29) hx hb (tb_at tk_X8_stop 15 rfl) (lv_at hl 4 rfl) ?_
        refine lv_iconst (pc := 31) (v := 0) hx hb (tb_at tk_X8_stop 16 rfl) (by decide) ?_
        refine lv_bipush (pc := 32) (v := 99) hx hb (tb_at tk_X8_stop 17 rfl) (by decide) ?_
        refine k_call0 (pc := 34) B (k_runSi (rest := []) (host := "") B (c_X8_in l dC dI cI cZ cQ cW   x4 0 99 N _ res h) E0_st (fun _ _ _ => trivial) q_c_X8_in q_m_X8_72 q_t_X8_in q_n_X8 hd_X8_in ⟨rfl, rfl⟩ ⟨Nat.le_of_ble_eq_true rfl, Nat.le_of_ble_eq_true rfl⟩ hW [] rfl (by decide +kernel) rfl hl.1 rfl (Nat.le_of_ble_eq_true rfl) (tb_at tk_X8_stop 18 rfl) ⟨Nat.zero_le _, Nat.zero_le _⟩) hW hS (fun r34 u H locs h hW hS => ?_)
        refine lv_if_eq (pc := 37) (tgt := 50) hx hb (tb_at tk_X8_stop 19 rfl) (by decide) (fun cc => ?_) (fun cc => ?_)
        · have h := it_t cc h
          refine lv_iconst (pc := 50) (v := (-1)) hx hb (tb_at tk_X8_stop 25 rfl) (by decide) ?_
          exact hQ (-1) () _ _ _ 51 rfl h hW hS (tb_at tk_X8_stop 26 rfl)
        · have h := it_f cc h
          refine lv_iload (pc := 40) hx hb (tb_at tk_X8_stop 20 rfl) (lv_at hl 5 rfl) ?_
          refine lv_iconst (pc := 42) (v := 0) hx hb (tb_at tk_X8_stop 21 rfl) (by decide) ?_
          refine lv_iconst (pc := 43) (v := 1) hx hb (tb_at tk_X8_stop 22 rfl) (by decide) ?_
          refine k_call0 (pc := 44) B (k_runSi (rest := []) (host := "") B (c_X8_in l dC dI cI cZ cQ cW   x5 0 1 N _ res h) E0_st (fun _ _ _ => trivial) q_c_X8_in q_m_X8_72 q_t_X8_in q_n_X8 hd_X8_in ⟨rfl, rfl⟩ ⟨Nat.le_of_ble_eq_true rfl, Nat.le_of_ble_eq_true rfl⟩ hW [] rfl (by decide +kernel) rfl hl.1 rfl (Nat.le_of_ble_eq_true rfl) (tb_at tk_X8_stop 23 rfl) ⟨Nat.zero_le _, Nat.zero_le _⟩) hW hS (fun r44 u H locs h hW hS => ?_)
          refine lv_if_ne (pc := 47) (tgt := 52) hx hb (tb_at tk_X8_stop 24 rfl) (by decide) (fun cc => ?_) (fun cc => ?_)
          · have h := it_f cc h
            refine lv_iconst (pc := 52) (v := 0) hx hb (tb_at tk_X8_stop 27 rfl) (by decide) ?_
            refine lv_istore (pc := 53) (lv' := [(6, .int 0), (0, .ref z_o), (1, .int x1), (2, .int x2), (3, .int x3), (4, .int x4), (5, .int x5)]) hx hb (tb_at tk_X8_stop 28 rfl) hl (by decide) rfl (fun ls hl => ?_)
            refine lv_iconst (pc := 55) (v := 1) hx hb (tb_at tk_X8_stop 29 rfl) (by decide) ?_
            refine lv_istore (pc := 56) (lv' := [(7, .int 1), (6, .int 0), (0, .ref z_o), (1, .int x1), (2, .int x2), (3, .int x3), (4, .int x4), (5, .int x5)]) hx hb (tb_at tk_X8_stop 30 rfl) hl (by decide) rfl (fun ls hl => ?_)
            refine lv_iconst (pc := 58) (v := 0) hx hb (tb_at tk_X8_stop 31 rfl) (by decide) ?_
            refine lv_istore (pc := 59) (lv' := [(8, .int 0), (7, .int 1), (6, .int 0), (0, .ref z_o), (1, .int x1), (2, .int x2), (3, .int x3), (4, .int x4), (5, .int x5)]) hx hb (tb_at tk_X8_stop 32 rfl) hl (by decide) rfl (fun ls hl => ?_)
            have w115 : ∀ (y6_e115 : Int32) (y7_e115 : Int32) (H : Heap) (locs : List Loc) (ls : Array Slot), f_X8_stop_e115 x5 k N y6_e115 y7_e115 = some res → PD (dC, dI) A (w_X8_stop cI cZ cQ cW z_o z_weight_a z_wants_a z_wantsMany_a z_st_a z_was_a z_images_a z_isKept_a z_told_a z_text_a z_saidWeight_a z_saidNights_a z_saidWants_a z_saidMany_a z_now_a z_gave_a z_at_a z_way_a z_bestWay_a z_made_a z_people z_known z_toldMany z_trace z_texted z_cursor z_start z_token z_number z_isWrong z_items z_saidPeople z_saidLaw z_ringed z_lumps) H → va_S A s.heap H locs → lv_has ls 9 [(5, .int x5), (6, .int y6_e115), (7, .int y7_e115)] → W p l e rm_X8_stop s m args below meth c H locs 0 0 Q (F0 m 115 ls []) := by
              intro y6_e115 y7_e115 H locs ls h hW hS hl
              unfold f_X8_stop_e115 at h
              refine lv_iload (pc := 115) hx hb (tb_at tk_X8_stop 64 rfl) (lv_at hl 1 rfl) ?_
              refine lv_iload (pc := 117) hx hb (tb_at tk_X8_stop 65 rfl) (lv_at hl 2 rfl) ?_
              refine lv_iload (pc := 119) hx hb (tb_at tk_X8_stop 66 rfl) (lv_at hl 0 rfl) ?_
              refine k_call0 (pc := 121) B (k_runSi (rest := []) (host := "") B (c_X8_lowest l dC dI cI cZ cQ cW   y6_e115 y7_e115 x5 N _ res h) E0_st (fun _ _ _ => trivial) q_c_X8_lowest q_m_X8_200 q_t_X8_lowest q_n_X8 hd_X8_lowest ⟨rfl, rfl⟩ ⟨Nat.le_of_ble_eq_true rfl, Nat.le_of_ble_eq_true rfl⟩ hW [] rfl (by decide +kernel) rfl hl.1 rfl (Nat.le_of_ble_eq_true rfl) (tb_at tk_X8_stop 67 rfl) ⟨Nat.zero_le _, Nat.zero_le _⟩) hW hS (fun r121 u H locs h hW hS => ?_)
              exact hQ r121 () _ _ _ 124 rfl h hW hS (tb_at tk_X8_stop 68 rfl)
            have w61 : ∀ (n : Nat), ∀ (y6_l61 : Int32) (y7_l61 : Int32) (y8_l61 : Int32) (H : Heap) (locs : List Loc) (ls : Array Slot), f_X8_stop_l61 x1 x2 x3 x4 (fun y6_e115 y7_e115 => f_X8_stop_e115 x5 k N y6_e115 y7_e115) n y6_l61 y7_l61 y8_l61 = some res → PD (dC, dI) A (w_X8_stop cI cZ cQ cW z_o z_weight_a z_wants_a z_wantsMany_a z_st_a z_was_a z_images_a z_isKept_a z_told_a z_text_a z_saidWeight_a z_saidNights_a z_saidWants_a z_saidMany_a z_now_a z_gave_a z_at_a z_way_a z_bestWay_a z_made_a z_people z_known z_toldMany z_trace z_texted z_cursor z_start z_token z_number z_isWrong z_items z_saidPeople z_saidLaw z_ringed z_lumps) H → va_S A s.heap H locs → lv_has ls 9 [(1, .int x1), (2, .int x2), (3, .int x3), (4, .int x4), (5, .int x5), (6, .int y6_l61), (7, .int y7_l61), (8, .int y8_l61)] → W p l e rm_X8_stop s m args below meth c H locs 0 0 Q (F0 m 61 ls []) := by
              intro n
              induction n with
              | zero => intro y6_l61 y7_l61 y8_l61 H locs ls h; exact no_n h
              | succ n61 ih61 =>
                intro y6_l61 y7_l61 y8_l61 H locs ls h hW hS hl
                rw [f_X8_stop_l61] at h
                refine lv_iload (pc := 61) hx hb (tb_at tk_X8_stop 33 rfl) (lv_at hl 7 rfl) ?_
                refine lv_iload_n (pc := 63) hx hb (tb_at tk_X8_stop 34 rfl) rfl (lv_at hl 0 rfl) ?_
                refine lv_icmp_ge (pc := 64) (tgt := 115) hx hb (tb_at tk_X8_stop 35 rfl) (by decide) (fun cc => ?_) (fun cc => ?_)
                · have h := it_t cc h
                  exact w115 y6_l61 y7_l61 _ _ _ h hW hS (lv_sub hl [4, 5, 6] rfl)
                · have h := it_f cc h
                  refine lv_iload_n (pc := 67) hx hb (tb_at tk_X8_stop 36 rfl) rfl (lv_at hl 1 rfl) ?_
                  refine lv_iload_n (pc := 68) hx hb (tb_at tk_X8_stop 37 rfl) rfl (lv_at hl 2 rfl) ?_
                  refine lv_imul (pc := 69) hx hb (tb_at tk_X8_stop 38 rfl) ?_
                  refine lv_bipush (pc := 70) (v := 10) hx hb (tb_at tk_X8_stop 39 rfl) (by decide) ?_
                  refine lv_iload (pc := 72) hx hb (tb_at tk_X8_stop 40 rfl) (lv_at hl 3 rfl) ?_
                  refine lv_imul (pc := 74) hx hb (tb_at tk_X8_stop 41 rfl) ?_
                  refine lv_isub (pc := 75) hx hb (tb_at tk_X8_stop 42 rfl) ?_
                  refine lv_iload (pc := 76) hx hb (tb_at tk_X8_stop 43 rfl) (lv_at hl 6 rfl) ?_
                  refine lv_imul (pc := 78) hx hb (tb_at tk_X8_stop 44 rfl) ?_
                  refine lv_bipush (pc := 79) (v := 10) hx hb (tb_at tk_X8_stop 45 rfl) (by decide) ?_
                  refine lv_iload_n (pc := 81) hx hb (tb_at tk_X8_stop 46 rfl) rfl (lv_at hl 1 rfl) ?_
                  refine lv_isub (pc := 82) hx hb (tb_at tk_X8_stop 47 rfl) ?_
                  refine lv_iload (pc := 83) hx hb (tb_at tk_X8_stop 48 rfl) (lv_at hl 5 rfl) ?_
                  refine lv_imul (pc := 85) hx hb (tb_at tk_X8_stop 49 rfl) ?_
                  refine lv_iadd (pc := 86) hx hb (tb_at tk_X8_stop 50 rfl) ?_
                  refine lv_istore (pc := 87) (lv' := [(6, .int ((((x2 * x3) - ((10 : Int32) * x4)) * y7_l61) + (((10 : Int32) - x2) * y6_l61))), (1, .int x1), (2, .int x2), (3, .int x3), (4, .int x4), (5, .int x5), (7, .int y7_l61), (8, .int y8_l61)]) hx hb (tb_at tk_X8_stop 51 rfl) hl (by decide) rfl (fun ls hl => ?_)
                  refine lv_iload (pc := 89) hx hb (tb_at tk_X8_stop 52 rfl) (lv_at hl 0 rfl) ?_
                  have w100 : ∀ (s0_j100 : Int32) (H : Heap) (locs : List Loc) (ls : Array Slot), f_X8_stop_j100 y7_l61 y8_l61 (f_X8_stop_l61 x1 x2 x3 x4 (fun y6_e115 y7_e115 => f_X8_stop_e115 x5 k N y6_e115 y7_e115) n61) s0_j100 = some res → PD (dC, dI) A (w_X8_stop cI cZ cQ cW z_o z_weight_a z_wants_a z_wantsMany_a z_st_a z_was_a z_images_a z_isKept_a z_told_a z_text_a z_saidWeight_a z_saidNights_a z_saidWants_a z_saidMany_a z_now_a z_gave_a z_at_a z_way_a z_bestWay_a z_made_a z_people z_known z_toldMany z_trace z_texted z_cursor z_start z_token z_number z_isWrong z_items z_saidPeople z_saidLaw z_ringed z_lumps) H → va_S A s.heap H locs → lv_has ls 9 [(1, .int x1), (2, .int x2), (3, .int x3), (4, .int x4), (5, .int x5), (7, .int y7_l61), (8, .int y8_l61)] → W p l e rm_X8_stop s m args below meth c H locs 0 0 Q (F0 m 100 ls [.int s0_j100]) := by
                    intro s0_j100 H locs ls h hW hS hl
                    unfold f_X8_stop_j100 at h
                    refine lv_istore (pc := 100) (lv' := [(6, .int s0_j100), (1, .int x1), (2, .int x2), (3, .int x3), (4, .int x4), (5, .int x5), (7, .int y7_l61), (8, .int y8_l61)]) hx hb (tb_at tk_X8_stop 57 rfl) hl (by decide) rfl (fun ls hl => ?_)
                    refine lv_iload (pc := 102) hx hb (tb_at tk_X8_stop 58 rfl) (lv_at hl 6 rfl) ?_
                    refine lv_bipush (pc := 104) (v := 10) hx hb (tb_at tk_X8_stop 59 rfl) (by decide) ?_
                    refine lv_imul (pc := 106) hx hb (tb_at tk_X8_stop 60 rfl) ?_
                    refine lv_istore (pc := 107) (lv' := [(7, .int (y7_l61 * 10)), (6, .int s0_j100), (1, .int x1), (2, .int x2), (3, .int x3), (4, .int x4), (5, .int x5), (8, .int y8_l61)]) hx hb (tb_at tk_X8_stop 61 rfl) hl (by decide) rfl (fun ls hl => ?_)
                    refine lv_iinc (pc := 109) (v := y8_l61 + 1) (lv' := [(8, .int (y8_l61 + 1)), (7, .int (y7_l61 * 10)), (6, .int s0_j100), (1, .int x1), (2, .int x2), (3, .int x3), (4, .int x4), (5, .int x5)]) hx hb (tb_at tk_X8_stop 62 rfl) hl (k := 7) rfl rfl (by decide) rfl (fun ls hl => ?_)
                    refine lv_goto (pc := 112) (tgt := 61) hx hb (tb_at tk_X8_stop 63 rfl) (by decide) ?_
                    exact ih61 s0_j100 (y7_l61 * 10) (y8_l61 + 1) _ _ _ h hW hS (lv_sub hl [3, 4, 5, 6, 7, 2, 1, 0] rfl)
                  refine lv_if_ge (pc := 91) (tgt := 98) hx hb (tb_at tk_X8_stop 53 rfl) (by decide) (fun cc => ?_) (fun cc => ?_)
                  · have h := it_t cc h
                    refine lv_iload (pc := 98) hx hb (tb_at tk_X8_stop 56 rfl) (lv_at hl 0 rfl) ?_
                    exact w100 ((((x2 * x3) - ((10 : Int32) * x4)) * y7_l61) + (((10 : Int32) - x2) * y6_l61)) _ _ _ h hW hS (lv_sub hl [1, 2, 3, 4, 5, 6, 7] rfl)
                  · have h := it_f cc h
                    refine lv_iconst (pc := 94) (v := 0) hx hb (tb_at tk_X8_stop 54 rfl) (by decide) ?_
                    refine lv_goto (pc := 95) (tgt := 100) hx hb (tb_at tk_X8_stop 55 rfl) (by decide) ?_
                    exact w100 0 _ _ _ h hW hS (lv_sub hl [1, 2, 3, 4, 5, 6, 7] rfl)
            exact w61 N 0 1 0 _ _ _ h hW hS (lv_sub hl [4, 5, 6, 7, 8, 2, 1, 0] rfl)
          · have h := it_t cc h
            refine lv_iconst (pc := 50) (v := (-1)) hx hb (tb_at tk_X8_stop 25 rfl) (by decide) ?_
            exact hQ (-1) () _ _ _ 51 rfl h hW hS (tb_at tk_X8_stop 26 rfl)
def f_X8_wantedBy_j27 {ρ : Type} (y2_l4 : Int32) (y3_l4 : Int32) (kb4 : Int32 → Int32 → Option ρ) (s1_j27 : Int32) : Option ρ := kb4 (y2_l4 + s1_j27) (y3_l4 + 1)
def f_X8_wantedBy_l4 {ρ : Type} (x1 : Int32) (z_people : Int32) (z_wantsMany : Nat → Int32) (z_wants : Nat → Int32) (k : Int32 → Option ρ) (N : Nat) : Nat → Int32 → Int32 → Option ρ
  | 0, _, _ => none
  | n4 + 1, y2_l4, y3_l4 => if z_people ≤ y3_l4 then (k y2_l4) else (f_X8_isWanted N z_wantsMany z_wants y3_l4 x1 (fun r16 => if r16 = 0 then (f_X8_wantedBy_j27 y2_l4 y3_l4 (f_X8_wantedBy_l4 x1 z_people z_wantsMany z_wants k N n4) 0) else (f_X8_wantedBy_j27 y2_l4 y3_l4 (f_X8_wantedBy_l4 x1 z_people z_wantsMany z_wants k N n4) 1)))
def f_X8_wantedBy {ρ : Type} (N : Nat) (z_people : Int32) (z_wantsMany : Nat → Int32) (z_wants : Nat → Int32) (x1 : Int32) (k : Int32 → Option ρ) : Option ρ := f_X8_wantedBy_l4 x1 z_people z_wantsMany z_wants k N N 0 0
abbrev w_X8_wantedBy (cI cZ cQ cW : ClassId) (z_o : Nat) (z_weight_a : Nat) (z_wants_a : Nat) (z_wantsMany_a : Nat) (z_st_a : Nat) (z_was_a : Nat) (z_images_a : Nat) (z_isKept_a : Nat) (z_told_a : Nat) (z_text_a : Nat) (z_saidWeight_a : Nat) (z_saidNights_a : Nat) (z_saidWants_a : Nat) (z_saidMany_a : Nat) (z_now_a : Nat) (z_gave_a : Nat) (z_at_a : Nat) (z_way_a : Nat) (z_bestWay_a : Nat) (z_made_a : Nat) (z_people : Int32) (z_known : Int32) (z_toldMany : Int32) (z_trace : Int64) (z_texted : Int32) (z_cursor : Int32) (z_start : Int32) (z_token : Int32) (z_number : Int32) (z_isWrong : Int32) (z_items : Int32) (z_saidPeople : Int32) (z_saidLaw : Int32) (z_ringed : Int32) (z_lumps : Int32) (z_wantsMany : Nat → Int32) (z_wants : Nat → Int32) : va_W := [(z_o, .inr (8, [.int z_people, .ref z_weight_a, .ref z_wants_a, .ref z_wantsMany_a, .ref z_st_a, .ref z_was_a, .int z_known, .ref z_images_a, .ref z_isKept_a, .int z_toldMany, .ref z_told_a, .long z_trace, .ref z_text_a, .int z_texted, .int z_cursor, .int z_start, .int z_token, .int z_number, .int z_isWrong, .int z_items, .int z_saidPeople, .ref z_saidWeight_a, .ref z_saidNights_a, .ref z_saidWants_a, .ref z_saidMany_a, .int z_saidLaw, .ref z_now_a, .ref z_gave_a, .ref z_at_a, .int z_ringed, .int z_lumps, .ref z_way_a, .ref z_bestWay_a, .ref z_made_a])), (z_wantsMany_a, .inl (cI, 6, .inl z_wantsMany)), (z_wants_a, .inl (cI, 24, .inl z_wants))]
abbrev rm_X8_wantedBy : Room := { frames := 1, cells := 0, slots := 0, locals := 24 }
set_option maxHeartbeats 4000000 in
set_option maxRecDepth 100000 in
theorem c_X8_wantedBy (l : Launch) (dC : Nat → ClassId) (dI : Nat → Nat → Nat) (cI cZ cQ cW : ClassId) (z_o : Nat) (z_weight_a : Nat) (z_wants_a : Nat) (z_wantsMany_a : Nat) (z_st_a : Nat) (z_was_a : Nat) (z_images_a : Nat) (z_isKept_a : Nat) (z_told_a : Nat) (z_text_a : Nat) (z_saidWeight_a : Nat) (z_saidNights_a : Nat) (z_saidWants_a : Nat) (z_saidMany_a : Nat) (z_now_a : Nat) (z_gave_a : Nat) (z_at_a : Nat) (z_way_a : Nat) (z_bestWay_a : Nat) (z_made_a : Nat) (z_people : Int32) (z_known : Int32) (z_toldMany : Int32) (z_trace : Int64) (z_texted : Int32) (z_cursor : Int32) (z_start : Int32) (z_token : Int32) (z_number : Int32) (z_isWrong : Int32) (z_items : Int32) (z_saidPeople : Int32) (z_saidLaw : Int32) (z_ringed : Int32) (z_lumps : Int32) (z_wantsMany : Nat → Int32) (z_wants : Nat → Int32) (x1 : Int32) {ρ : Type} (N : Nat) (k : Int32 → Option ρ) (res : ρ) (h : f_X8_wantedBy N z_people z_wantsMany z_wants x1 k = some res) : Ci l yX8_wantedBy (WS yX8_wantedBy cX8_wantedBy 4 (some .int)) rm_X8_wantedBy (dC, dI) (tysG cI cZ cQ cW) E0 [.ref z_o, .int x1] (w_X8_wantedBy cI cZ cQ cW z_o z_weight_a z_wants_a z_wantsMany_a z_st_a z_was_a z_images_a z_isKept_a z_told_a z_text_a z_saidWeight_a z_saidNights_a z_saidWants_a z_saidMany_a z_now_a z_gave_a z_at_a z_way_a z_bestWay_a z_made_a z_people z_known z_toldMany z_trace z_texted z_cursor z_start z_token z_number z_isWrong z_items z_saidPeople z_saidLaw z_ringed z_lumps z_wantsMany z_wants) (fun (_ : Unit) => (w_X8_wantedBy cI cZ cQ cW z_o z_weight_a z_wants_a z_wantsMany_a z_st_a z_was_a z_images_a z_isKept_a z_told_a z_text_a z_saidWeight_a z_saidNights_a z_saidWants_a z_saidMany_a z_now_a z_gave_a z_at_a z_way_a z_bestWay_a z_made_a z_people z_known z_toldMany z_trace z_texted z_cursor z_start z_token z_number z_isWrong z_items z_saidPeople z_saidLaw z_ringed z_lumps z_wantsMany z_wants)) (fun r _ => k r = some res) := by
  refine Ci.of (cc := cX8_wantedBy) (n := 4) (by decide +kernel) (Nat.le_of_ble_eq_true rfl) ?_
  intro p e s m args below meth c A ls Q B hW hE hS hl hQ
  have hx := B.1
  have hb := B.2.1
  have hl : lv_has ls 4 [(0, .ref z_o), (1, .int x1)] := hl
  unfold f_X8_wantedBy at h
  refine lv_iconst (pc := 0) (v := 0) hx hb (tb_at tk_X8_wantedBy 0 rfl) (by decide) ?_
  refine lv_istore_n (pc := 1) (lv' := [(2, .int 0), (0, .ref z_o), (1, .int x1)]) hx hb (tb_at tk_X8_wantedBy 1 rfl) rfl hl (by decide) rfl (fun ls hl => ?_)
  refine lv_iconst (pc := 2) (v := 0) hx hb (tb_at tk_X8_wantedBy 2 rfl) (by decide) ?_
  refine lv_istore_n (pc := 3) (lv' := [(3, .int 0), (2, .int 0), (0, .ref z_o), (1, .int x1)]) hx hb (tb_at tk_X8_wantedBy 3 rfl) rfl hl (by decide) rfl (fun ls hl => ?_)
  have w4 : ∀ (n : Nat), ∀ (y2_l4 : Int32) (y3_l4 : Int32) (H : Heap) (locs : List Loc) (ls : Array Slot), f_X8_wantedBy_l4 x1 z_people z_wantsMany z_wants k N n y2_l4 y3_l4 = some res → PD (dC, dI) A (w_X8_wantedBy cI cZ cQ cW z_o z_weight_a z_wants_a z_wantsMany_a z_st_a z_was_a z_images_a z_isKept_a z_told_a z_text_a z_saidWeight_a z_saidNights_a z_saidWants_a z_saidMany_a z_now_a z_gave_a z_at_a z_way_a z_bestWay_a z_made_a z_people z_known z_toldMany z_trace z_texted z_cursor z_start z_token z_number z_isWrong z_items z_saidPeople z_saidLaw z_ringed z_lumps z_wantsMany z_wants) H → va_S A s.heap H locs → lv_has ls 4 [(0, .ref z_o), (1, .int x1), (2, .int y2_l4), (3, .int y3_l4)] → W p l e rm_X8_wantedBy s m args below meth c H locs 0 0 Q (F0 m 4 ls []) := by
    intro n
    induction n with
    | zero => intro y2_l4 y3_l4 H locs ls h; exact no_n h
    | succ n4 ih4 =>
      intro y2_l4 y3_l4 H locs ls h hW hS hl
      rw [f_X8_wantedBy_l4] at h
      refine lv_iload_n (pc := 4) hx hb (tb_at tk_X8_wantedBy 4 rfl) rfl (lv_at hl 3 rfl) ?_
      refine lv_aload_n (pc := 5) hx hb (tb_at tk_X8_wantedBy 5 rfl) rfl (lv_at hl 0 rfl) ?_
      refine k_get (pc := 6) (v := .int z_people) (T := TX8) B inG8 hW 0 rfl rfl 0 (by decide) q_f_X8_68 rfl rfl (tb_at tk_X8_wantedBy 6 rfl) ?_
      refine lv_icmp_ge (pc := 9) (tgt := 35) hx hb (tb_at tk_X8_wantedBy 7 rfl) (by decide) (fun cc => ?_) (fun cc => ?_)
      · have h := it_t cc h
        refine lv_iload_n (pc := 35) hx hb (tb_at tk_X8_wantedBy 21 rfl) rfl (lv_at hl 2 rfl) ?_
        exact hQ y2_l4 () _ _ _ 36 rfl h hW hS (tb_at tk_X8_wantedBy 22 rfl)
      · have h := it_f cc h
        refine lv_iload_n (pc := 12) hx hb (tb_at tk_X8_wantedBy 8 rfl) rfl (lv_at hl 2 rfl) ?_
        refine lv_aload_n (pc := 13) hx hb (tb_at tk_X8_wantedBy 9 rfl) rfl (lv_at hl 0 rfl) ?_
        refine lv_iload_n (pc := 14) hx hb (tb_at tk_X8_wantedBy 10 rfl) rfl (lv_at hl 3 rfl) ?_
        refine lv_iload_n (pc := 15) hx hb (tb_at tk_X8_wantedBy 11 rfl) rfl (lv_at hl 1 rfl) ?_
        refine k_calli (pc := 16) B (k_runVi (rest := [.int y2_l4]) (C := RX8) B (c_X8_isWanted l dC dI cI cZ cQ cW z_o z_weight_a z_wants_a z_wantsMany_a z_st_a z_was_a z_images_a z_isKept_a z_told_a z_text_a z_saidWeight_a z_saidNights_a z_saidWants_a z_saidMany_a z_now_a z_gave_a z_at_a z_way_a z_bestWay_a z_made_a z_people z_known z_toldMany z_trace z_texted z_cursor z_start z_token z_number z_isWrong z_items z_saidPeople z_saidLaw z_ringed z_lumps z_wantsMany z_wants y3_l4 x1 N _ res h) E0_st (fun _ _ _ => trivial) q_c_X8_isWanted q_m_X8_194 q_i_X8_isWanted q_s_X8_isWanted q_n_X8 hd_X8_isWanted ⟨rfl, rfl⟩ ⟨Nat.le_of_ble_eq_true rfl, Nat.le_of_ble_eq_true rfl⟩ hW [0, 1, 2] rfl (by decide +kernel) (q0 := 0) (ci := 8) rfl rfl rfl hl.1 rfl (Nat.le_of_ble_eq_true rfl) (tb_at tk_X8_wantedBy 12 rfl) ⟨Nat.zero_le _, Nat.zero_le _⟩) hW hS [0, 1, 2] rfl [z_o, z_wantsMany_a, z_wants_a] rfl (fun _ => rfl) [some 0, some 1, some 2] (by decide +kernel) (fun _ => (w_X8_wantedBy cI cZ cQ cW z_o z_weight_a z_wants_a z_wantsMany_a z_st_a z_was_a z_images_a z_isKept_a z_told_a z_text_a z_saidWeight_a z_saidNights_a z_saidWants_a z_saidMany_a z_now_a z_gave_a z_at_a z_way_a z_bestWay_a z_made_a z_people z_known z_toldMany z_trace z_texted z_cursor z_start z_token z_number z_isWrong z_items z_saidPeople z_saidLaw z_ringed z_lumps z_wantsMany z_wants)) (fun _ => rfl) (fun r16 u H locs h hW hS => ?_)
        have hW : PD (dC, dI) A (w_X8_wantedBy cI cZ cQ cW z_o z_weight_a z_wants_a z_wantsMany_a z_st_a z_was_a z_images_a z_isKept_a z_told_a z_text_a z_saidWeight_a z_saidNights_a z_saidWants_a z_saidMany_a z_now_a z_gave_a z_at_a z_way_a z_bestWay_a z_made_a z_people z_known z_toldMany z_trace z_texted z_cursor z_start z_token z_number z_isWrong z_items z_saidPeople z_saidLaw z_ringed z_lumps z_wantsMany z_wants) H := hW
        have w27 : ∀ (s1_j27 : Int32) (H : Heap) (locs : List Loc) (ls : Array Slot), f_X8_wantedBy_j27 y2_l4 y3_l4 (f_X8_wantedBy_l4 x1 z_people z_wantsMany z_wants k N n4) s1_j27 = some res → PD (dC, dI) A (w_X8_wantedBy cI cZ cQ cW z_o z_weight_a z_wants_a z_wantsMany_a z_st_a z_was_a z_images_a z_isKept_a z_told_a z_text_a z_saidWeight_a z_saidNights_a z_saidWants_a z_saidMany_a z_now_a z_gave_a z_at_a z_way_a z_bestWay_a z_made_a z_people z_known z_toldMany z_trace z_texted z_cursor z_start z_token z_number z_isWrong z_items z_saidPeople z_saidLaw z_ringed z_lumps z_wantsMany z_wants) H → va_S A s.heap H locs → lv_has ls 4 [(0, .ref z_o), (1, .int x1), (3, .int y3_l4)] → W p l e rm_X8_wantedBy s m args below meth c H locs 0 0 Q (F0 m 27 ls [.int s1_j27, .int y2_l4]) := by
          intro s1_j27 H locs ls h hW hS hl
          unfold f_X8_wantedBy_j27 at h
          refine lv_iadd (pc := 27) hx hb (tb_at tk_X8_wantedBy 17 rfl) ?_
          refine lv_istore_n (pc := 28) (lv' := [(2, .int (y2_l4 + s1_j27)), (0, .ref z_o), (1, .int x1), (3, .int y3_l4)]) hx hb (tb_at tk_X8_wantedBy 18 rfl) rfl hl (by decide) rfl (fun ls hl => ?_)
          refine lv_iinc (pc := 29) (v := y3_l4 + 1) (lv' := [(3, .int (y3_l4 + 1)), (2, .int (y2_l4 + s1_j27)), (0, .ref z_o), (1, .int x1)]) hx hb (tb_at tk_X8_wantedBy 19 rfl) hl (k := 3) rfl rfl (by decide) rfl (fun ls hl => ?_)
          refine lv_goto (pc := 32) (tgt := 4) hx hb (tb_at tk_X8_wantedBy 20 rfl) (by decide) ?_
          exact ih4 (y2_l4 + s1_j27) (y3_l4 + 1) _ _ _ h hW hS (lv_sub hl [2, 3, 1, 0] rfl)
        refine lv_if_eq (pc := 19) (tgt := 26) hx hb (tb_at tk_X8_wantedBy 13 rfl) (by decide) (fun cc => ?_) (fun cc => ?_)
        · have h := it_t cc h
          refine lv_iconst (pc := 26) (v := 0) hx hb (tb_at tk_X8_wantedBy 16 rfl) (by decide) ?_
          exact w27 0 _ _ _ h hW hS (lv_sub hl [0, 1, 3] rfl)
        · have h := it_f cc h
          refine lv_iconst (pc := 22) (v := 1) hx hb (tb_at tk_X8_wantedBy 14 rfl) (by decide) ?_
          refine lv_goto (pc := 23) (tgt := 27) hx hb (tb_at tk_X8_wantedBy 15 rfl) (by decide) ?_
          exact w27 1 _ _ _ h hW hS (lv_sub hl [0, 1, 3] rfl)
  exact w4 N 0 0 _ _ _ h hW hS (lv_sub hl [2, 3, 1, 0] rfl)
def f_X8_whoHas_l5 {ρ : Type} (x1 : Int32) (z_people : Int32) (z_st : Nat → Int32) (k : Int32 → Option ρ) : Nat → Int32 → Int32 → Option ρ
  | 0, _, _ => none
  | n5 + 1, y2_l5, y3_l5 => if z_people ≤ y3_l5 then (k y2_l5) else (ck (ivi ((0 : Int32) + y3_l5) 25) (if (z_st ((0 : Int32) + y3_l5).toNatClampNeg) = x1 then ((f_X8_whoHas_l5 x1 z_people z_st k n5) y3_l5 (y3_l5 + 1)) else ((f_X8_whoHas_l5 x1 z_people z_st k n5) y2_l5 (y3_l5 + 1))))
def f_X8_whoHas {ρ : Type} (N : Nat) (z_people : Int32) (z_st : Nat → Int32) (x1 : Int32) (k : Int32 → Option ρ) : Option ρ := f_X8_whoHas_l5 x1 z_people z_st k N 10 0
abbrev w_X8_whoHas (cI cZ cQ cW : ClassId) (z_o : Nat) (z_weight_a : Nat) (z_wants_a : Nat) (z_wantsMany_a : Nat) (z_st_a : Nat) (z_was_a : Nat) (z_images_a : Nat) (z_isKept_a : Nat) (z_told_a : Nat) (z_text_a : Nat) (z_saidWeight_a : Nat) (z_saidNights_a : Nat) (z_saidWants_a : Nat) (z_saidMany_a : Nat) (z_now_a : Nat) (z_gave_a : Nat) (z_at_a : Nat) (z_way_a : Nat) (z_bestWay_a : Nat) (z_made_a : Nat) (z_people : Int32) (z_known : Int32) (z_toldMany : Int32) (z_trace : Int64) (z_texted : Int32) (z_cursor : Int32) (z_start : Int32) (z_token : Int32) (z_number : Int32) (z_isWrong : Int32) (z_items : Int32) (z_saidPeople : Int32) (z_saidLaw : Int32) (z_ringed : Int32) (z_lumps : Int32) (z_st : Nat → Int32) : va_W := [(z_o, .inr (8, [.int z_people, .ref z_weight_a, .ref z_wants_a, .ref z_wantsMany_a, .ref z_st_a, .ref z_was_a, .int z_known, .ref z_images_a, .ref z_isKept_a, .int z_toldMany, .ref z_told_a, .long z_trace, .ref z_text_a, .int z_texted, .int z_cursor, .int z_start, .int z_token, .int z_number, .int z_isWrong, .int z_items, .int z_saidPeople, .ref z_saidWeight_a, .ref z_saidNights_a, .ref z_saidWants_a, .ref z_saidMany_a, .int z_saidLaw, .ref z_now_a, .ref z_gave_a, .ref z_at_a, .int z_ringed, .int z_lumps, .ref z_way_a, .ref z_bestWay_a, .ref z_made_a])), (z_st_a, .inl (cI, 25, .inl z_st))]
abbrev rm_X8_whoHas : Room := { frames := 0, cells := 0, slots := 0, locals := 0 }
set_option maxHeartbeats 4000000 in
set_option maxRecDepth 100000 in
theorem c_X8_whoHas (l : Launch) (dC : Nat → ClassId) (dI : Nat → Nat → Nat) (cI cZ cQ cW : ClassId) (z_o : Nat) (z_weight_a : Nat) (z_wants_a : Nat) (z_wantsMany_a : Nat) (z_st_a : Nat) (z_was_a : Nat) (z_images_a : Nat) (z_isKept_a : Nat) (z_told_a : Nat) (z_text_a : Nat) (z_saidWeight_a : Nat) (z_saidNights_a : Nat) (z_saidWants_a : Nat) (z_saidMany_a : Nat) (z_now_a : Nat) (z_gave_a : Nat) (z_at_a : Nat) (z_way_a : Nat) (z_bestWay_a : Nat) (z_made_a : Nat) (z_people : Int32) (z_known : Int32) (z_toldMany : Int32) (z_trace : Int64) (z_texted : Int32) (z_cursor : Int32) (z_start : Int32) (z_token : Int32) (z_number : Int32) (z_isWrong : Int32) (z_items : Int32) (z_saidPeople : Int32) (z_saidLaw : Int32) (z_ringed : Int32) (z_lumps : Int32) (z_st : Nat → Int32) (x1 : Int32) {ρ : Type} (N : Nat) (k : Int32 → Option ρ) (res : ρ) (h : f_X8_whoHas N z_people z_st x1 k = some res) : Ci l yX8_whoHas (WS yX8_whoHas cX8_whoHas 4 (some .int)) rm_X8_whoHas (dC, dI) (tysG cI cZ cQ cW) E0 [.ref z_o, .int x1] (w_X8_whoHas cI cZ cQ cW z_o z_weight_a z_wants_a z_wantsMany_a z_st_a z_was_a z_images_a z_isKept_a z_told_a z_text_a z_saidWeight_a z_saidNights_a z_saidWants_a z_saidMany_a z_now_a z_gave_a z_at_a z_way_a z_bestWay_a z_made_a z_people z_known z_toldMany z_trace z_texted z_cursor z_start z_token z_number z_isWrong z_items z_saidPeople z_saidLaw z_ringed z_lumps z_st) (fun (_ : Unit) => (w_X8_whoHas cI cZ cQ cW z_o z_weight_a z_wants_a z_wantsMany_a z_st_a z_was_a z_images_a z_isKept_a z_told_a z_text_a z_saidWeight_a z_saidNights_a z_saidWants_a z_saidMany_a z_now_a z_gave_a z_at_a z_way_a z_bestWay_a z_made_a z_people z_known z_toldMany z_trace z_texted z_cursor z_start z_token z_number z_isWrong z_items z_saidPeople z_saidLaw z_ringed z_lumps z_st)) (fun r _ => k r = some res) := by
  refine Ci.of (cc := cX8_whoHas) (n := 4) (by decide +kernel) (Nat.le_of_ble_eq_true rfl) ?_
  intro p e s m args below meth c A ls Q B hW hE hS hl hQ
  have hx := B.1
  have hb := B.2.1
  have hl : lv_has ls 4 [(0, .ref z_o), (1, .int x1)] := hl
  unfold f_X8_whoHas at h
  refine lv_bipush (pc := 0) (v := 10) hx hb (tb_at tk_X8_whoHas 0 rfl) (by decide) ?_
  refine lv_istore_n (pc := 2) (lv' := [(2, .int 10), (0, .ref z_o), (1, .int x1)]) hx hb (tb_at tk_X8_whoHas 1 rfl) rfl hl (by decide) rfl (fun ls hl => ?_)
  refine lv_iconst (pc := 3) (v := 0) hx hb (tb_at tk_X8_whoHas 2 rfl) (by decide) ?_
  refine lv_istore_n (pc := 4) (lv' := [(3, .int 0), (2, .int 10), (0, .ref z_o), (1, .int x1)]) hx hb (tb_at tk_X8_whoHas 3 rfl) rfl hl (by decide) rfl (fun ls hl => ?_)
  have w5 : ∀ (n : Nat), ∀ (y2_l5 : Int32) (y3_l5 : Int32) (H : Heap) (locs : List Loc) (ls : Array Slot), f_X8_whoHas_l5 x1 z_people z_st k n y2_l5 y3_l5 = some res → PD (dC, dI) A (w_X8_whoHas cI cZ cQ cW z_o z_weight_a z_wants_a z_wantsMany_a z_st_a z_was_a z_images_a z_isKept_a z_told_a z_text_a z_saidWeight_a z_saidNights_a z_saidWants_a z_saidMany_a z_now_a z_gave_a z_at_a z_way_a z_bestWay_a z_made_a z_people z_known z_toldMany z_trace z_texted z_cursor z_start z_token z_number z_isWrong z_items z_saidPeople z_saidLaw z_ringed z_lumps z_st) H → va_S A s.heap H locs → lv_has ls 4 [(0, .ref z_o), (1, .int x1), (2, .int y2_l5), (3, .int y3_l5)] → W p l e rm_X8_whoHas s m args below meth c H locs 0 0 Q (F0 m 5 ls []) := by
    intro n
    induction n with
    | zero => intro y2_l5 y3_l5 H locs ls h; exact no_n h
    | succ n5 ih5 =>
      intro y2_l5 y3_l5 H locs ls h hW hS hl
      rw [f_X8_whoHas_l5] at h
      refine lv_iload_n (pc := 5) hx hb (tb_at tk_X8_whoHas 4 rfl) rfl (lv_at hl 3 rfl) ?_
      refine lv_aload_n (pc := 6) hx hb (tb_at tk_X8_whoHas 5 rfl) rfl (lv_at hl 0 rfl) ?_
      refine k_get (pc := 7) (v := .int z_people) (T := TX8) B inG8 hW 0 rfl rfl 0 (by decide) q_f_X8_68 rfl rfl (tb_at tk_X8_whoHas 6 rfl) ?_
      refine lv_icmp_ge (pc := 10) (tgt := 37) hx hb (tb_at tk_X8_whoHas 7 rfl) (by decide) (fun cc => ?_) (fun cc => ?_)
      · have h := it_t cc h
        refine lv_iload_n (pc := 37) hx hb (tb_at tk_X8_whoHas 22 rfl) rfl (lv_at hl 2 rfl) ?_
        exact hQ y2_l5 () _ _ _ 38 rfl h hW hS (tb_at tk_X8_whoHas 23 rfl)
      · have h := it_f cc h
        refine lv_aload_n (pc := 13) hx hb (tb_at tk_X8_whoHas 8 rfl) rfl (lv_at hl 0 rfl) ?_
        refine k_get (pc := 14) (v := .ref z_st_a) (T := TX8) B inG8 hW 0 rfl rfl 4 (by decide) q_f_X8_19 rfl rfl (tb_at tk_X8_whoHas 9 rfl) ?_
        refine lv_iconst (pc := 17) (v := 0) hx hb (tb_at tk_X8_whoHas 10 rfl) (by decide) ?_
        refine lv_iload_n (pc := 18) hx hb (tb_at tk_X8_whoHas 11 rfl) rfl (lv_at hl 3 rfl) ?_
        refine lv_iadd (pc := 19) hx hb (tb_at tk_X8_whoHas 12 rfl) ?_
        have ii := ivi_in (ck_l h)
        have h := ck_r h
        refine k_iald (pc := 20) B hW 1 0 rfl rfl ii (tb_at tk_X8_whoHas 13 rfl) ?_
        refine lv_iload_n (pc := 21) hx hb (tb_at tk_X8_whoHas 14 rfl) rfl (lv_at hl 1 rfl) ?_
        refine lv_icmp_ne (pc := 22) (tgt := 29) hx hb (tb_at tk_X8_whoHas 15 rfl) (by decide) (fun cc => ?_) (fun cc => ?_)
        · have h := it_f cc h
          refine lv_iload_n (pc := 29) hx hb (tb_at tk_X8_whoHas 18 rfl) rfl (lv_at hl 2 rfl) ?_
          refine lv_istore_n (pc := 30) (lv' := [(2, .int y2_l5), (0, .ref z_o), (1, .int x1), (3, .int y3_l5)]) hx hb (tb_at tk_X8_whoHas 19 rfl) rfl hl (by decide) rfl (fun ls hl => ?_)
          refine lv_iinc (pc := 31) (v := y3_l5 + 1) (lv' := [(3, .int (y3_l5 + 1)), (2, .int y2_l5), (0, .ref z_o), (1, .int x1)]) hx hb (tb_at tk_X8_whoHas 20 rfl) hl (k := 3) rfl rfl (by decide) rfl (fun ls hl => ?_)
          refine lv_goto (pc := 34) (tgt := 5) hx hb (tb_at tk_X8_whoHas 21 rfl) (by decide) ?_
          exact ih5 y2_l5 (y3_l5 + 1) _ _ _ h hW hS (lv_sub hl [2, 3, 1, 0] rfl)
        · have h := it_t cc h
          refine lv_iload_n (pc := 25) hx hb (tb_at tk_X8_whoHas 16 rfl) rfl (lv_at hl 3 rfl) ?_
          refine lv_goto (pc := 26) (tgt := 30) hx hb (tb_at tk_X8_whoHas 17 rfl) (by decide) ?_
          refine lv_istore_n (pc := 30) (lv' := [(2, .int y3_l5), (0, .ref z_o), (1, .int x1), (3, .int y3_l5)]) hx hb (tb_at tk_X8_whoHas 19 rfl) rfl hl (by decide) rfl (fun ls hl => ?_)
          refine lv_iinc (pc := 31) (v := y3_l5 + 1) (lv' := [(3, .int (y3_l5 + 1)), (2, .int y3_l5), (0, .ref z_o), (1, .int x1)]) hx hb (tb_at tk_X8_whoHas 20 rfl) hl (k := 3) rfl rfl (by decide) rfl (fun ls hl => ?_)
          refine lv_goto (pc := 34) (tgt := 5) hx hb (tb_at tk_X8_whoHas 21 rfl) (by decide) ?_
          exact ih5 y3_l5 (y3_l5 + 1) _ _ _ h hW hS (lv_sub hl [2, 3, 1, 0] rfl)
  exact w5 N 10 0 _ _ _ h hW hS (lv_sub hl [2, 3, 1, 0] rfl)
def f_X8_rate {ρ : Type} (N : Nat) (z_people : Int32) (z_trace : Int64) (z_weight : Nat → Int32) (z_wantsMany : Nat → Int32) (z_wants : Nat → Int32) (z_st : Nat → Int32) (x1 : Int32) (x2 : Int32) (k : Int32 → Int64 → Option ρ) : Option ρ := f_X8_in N x1 0 5 (fun r3 => if r3 = 0 then (k (-1000000) z_trace) else (f_X8_isPerson N z_people x2 (fun r11 => if r11 = 0 then (k (-1000000) z_trace) else (ck (ivi x2 6) (f_X8_wantedBy N z_people z_wantsMany z_wants x2 (fun r30 => ck (ivi ((6 : Int32) + x2) 25) (if x1 = 1 then (k ((z_weight (x2).toNatClampNeg) + r30) (z_trace + 11)) else (if x1 = 2 then (k ((z_weight (x2).toNatClampNeg) - (z_st ((6 : Int32) + x2).toNatClampNeg)) (z_trace + 101)) else (if x1 = 3 then (k ((2 : Int32) * ((z_weight (x2).toNatClampNeg) + r30)) (z_trace + 1011)) else (if x1 = 4 then (f_X8_whoHas N z_people z_st x2 (fun r147 => k (((z_weight (x2).toNatClampNeg) - (z_st ((6 : Int32) + x2).toNatClampNeg)) + r147) (z_trace + 10101))) else (if x1 = 5 then (ck (ivi (23 : Int32) 25) (k ((z_weight (x2).toNatClampNeg) + (z_st ((23 : Int32)).toNatClampNeg)) (z_trace + 100001))) else (k (z_weight (x2).toNatClampNeg) (z_trace + 1)))))))))))))
abbrev w_X8_rate (cI cZ cQ cW : ClassId) (z_o : Nat) (z_weight_a : Nat) (z_wants_a : Nat) (z_wantsMany_a : Nat) (z_st_a : Nat) (z_was_a : Nat) (z_images_a : Nat) (z_isKept_a : Nat) (z_told_a : Nat) (z_text_a : Nat) (z_saidWeight_a : Nat) (z_saidNights_a : Nat) (z_saidWants_a : Nat) (z_saidMany_a : Nat) (z_now_a : Nat) (z_gave_a : Nat) (z_at_a : Nat) (z_way_a : Nat) (z_bestWay_a : Nat) (z_made_a : Nat) (z_people : Int32) (z_known : Int32) (z_toldMany : Int32) (z_trace : Int64) (z_texted : Int32) (z_cursor : Int32) (z_start : Int32) (z_token : Int32) (z_number : Int32) (z_isWrong : Int32) (z_items : Int32) (z_saidPeople : Int32) (z_saidLaw : Int32) (z_ringed : Int32) (z_lumps : Int32) (z_weight : Nat → Int32) (z_wantsMany : Nat → Int32) (z_wants : Nat → Int32) (z_st : Nat → Int32) : va_W := [(z_o, .inr (8, [.int z_people, .ref z_weight_a, .ref z_wants_a, .ref z_wantsMany_a, .ref z_st_a, .ref z_was_a, .int z_known, .ref z_images_a, .ref z_isKept_a, .int z_toldMany, .ref z_told_a, .long z_trace, .ref z_text_a, .int z_texted, .int z_cursor, .int z_start, .int z_token, .int z_number, .int z_isWrong, .int z_items, .int z_saidPeople, .ref z_saidWeight_a, .ref z_saidNights_a, .ref z_saidWants_a, .ref z_saidMany_a, .int z_saidLaw, .ref z_now_a, .ref z_gave_a, .ref z_at_a, .int z_ringed, .int z_lumps, .ref z_way_a, .ref z_bestWay_a, .ref z_made_a])), (z_weight_a, .inl (cI, 6, .inl z_weight)), (z_wantsMany_a, .inl (cI, 6, .inl z_wantsMany)), (z_wants_a, .inl (cI, 24, .inl z_wants)), (z_st_a, .inl (cI, 25, .inl z_st))]
abbrev rm_X8_rate : Room := { frames := 2, cells := 0, slots := 0, locals := 47 }
set_option maxHeartbeats 4000000 in
set_option maxRecDepth 100000 in
theorem c_X8_rate (l : Launch) (dC : Nat → ClassId) (dI : Nat → Nat → Nat) (cI cZ cQ cW : ClassId) (z_o : Nat) (z_weight_a : Nat) (z_wants_a : Nat) (z_wantsMany_a : Nat) (z_st_a : Nat) (z_was_a : Nat) (z_images_a : Nat) (z_isKept_a : Nat) (z_told_a : Nat) (z_text_a : Nat) (z_saidWeight_a : Nat) (z_saidNights_a : Nat) (z_saidWants_a : Nat) (z_saidMany_a : Nat) (z_now_a : Nat) (z_gave_a : Nat) (z_at_a : Nat) (z_way_a : Nat) (z_bestWay_a : Nat) (z_made_a : Nat) (z_people : Int32) (z_known : Int32) (z_toldMany : Int32) (z_trace : Int64) (z_texted : Int32) (z_cursor : Int32) (z_start : Int32) (z_token : Int32) (z_number : Int32) (z_isWrong : Int32) (z_items : Int32) (z_saidPeople : Int32) (z_saidLaw : Int32) (z_ringed : Int32) (z_lumps : Int32) (z_weight : Nat → Int32) (z_wantsMany : Nat → Int32) (z_wants : Nat → Int32) (z_st : Nat → Int32) (x1 : Int32) (x2 : Int32) {ρ : Type} (N : Nat) (k : Int32 → Int64 → Option ρ) (res : ρ) (h : f_X8_rate N z_people z_trace z_weight z_wantsMany z_wants z_st x1 x2 k = some res) : Ci l yX8_rate (WS yX8_rate cX8_rate 6 (some .int)) rm_X8_rate (dC, dI) (tysG cI cZ cQ cW) E0 [.ref z_o, .int x1, .int x2] (w_X8_rate cI cZ cQ cW z_o z_weight_a z_wants_a z_wantsMany_a z_st_a z_was_a z_images_a z_isKept_a z_told_a z_text_a z_saidWeight_a z_saidNights_a z_saidWants_a z_saidMany_a z_now_a z_gave_a z_at_a z_way_a z_bestWay_a z_made_a z_people z_known z_toldMany z_trace z_texted z_cursor z_start z_token z_number z_isWrong z_items z_saidPeople z_saidLaw z_ringed z_lumps z_weight z_wantsMany z_wants z_st) (fun (u : Int64) => (w_X8_rate cI cZ cQ cW z_o z_weight_a z_wants_a z_wantsMany_a z_st_a z_was_a z_images_a z_isKept_a z_told_a z_text_a z_saidWeight_a z_saidNights_a z_saidWants_a z_saidMany_a z_now_a z_gave_a z_at_a z_way_a z_bestWay_a z_made_a z_people z_known z_toldMany u z_texted z_cursor z_start z_token z_number z_isWrong z_items z_saidPeople z_saidLaw z_ringed z_lumps z_weight z_wantsMany z_wants z_st)) (fun r u => k r u = some res) := by
  refine Ci.of (cc := cX8_rate) (n := 6) (by decide +kernel) (Nat.le_of_ble_eq_true rfl) ?_
  intro p e s m args below meth c A ls Q B hW hE hS hl hQ
  have hx := B.1
  have hb := B.2.1
  have hl : lv_has ls 6 [(0, .ref z_o), (1, .int x1), (2, .int x2)] := hl
  unfold f_X8_rate at h
  refine lv_iload_n (pc := 0) hx hb (tb_at tk_X8_rate 0 rfl) rfl (lv_at hl 1 rfl) ?_
  refine lv_iconst (pc := 1) (v := 0) hx hb (tb_at tk_X8_rate 1 rfl) (by decide) ?_
  refine lv_iconst (pc := 2) (v := 5) hx hb (tb_at tk_X8_rate 2 rfl) (by decide) ?_
  refine k_call0 (pc := 3) B (k_runSi (rest := []) (host := "") B (c_X8_in l dC dI cI cZ cQ cW   x1 0 5 N _ res h) E0_st (fun _ _ _ => trivial) q_c_X8_in q_m_X8_72 q_t_X8_in q_n_X8 hd_X8_in ⟨rfl, rfl⟩ ⟨Nat.le_of_ble_eq_true rfl, Nat.le_of_ble_eq_true rfl⟩ hW [] rfl (by decide +kernel) rfl hl.1 rfl (Nat.le_of_ble_eq_true rfl) (tb_at tk_X8_rate 3 rfl) ⟨Nat.zero_le _, Nat.zero_le _⟩) hW hS (fun r3 u H locs h hW hS => ?_)
  refine lv_if_eq (pc := 6) (tgt := 17) hx hb (tb_at tk_X8_rate 4 rfl) (by decide) (fun cc => ?_) (fun cc => ?_)
  · have h := it_t cc h
    refine lv_ldc (pc := 17) (v := (-1000000)) hx hb B.2.2.2.2.1 (B.2.2.2.2.2.1 _ q_v_X8_209) (tb_at tk_X8_rate 9 rfl) ?_
    exact hQ (-1000000) (z_trace) _ _ _ 19 rfl h hW hS (tb_at tk_X8_rate 10 rfl)
  · have h := it_f cc h
    refine lv_aload_n (pc := 9) hx hb (tb_at tk_X8_rate 5 rfl) rfl (lv_at hl 0 rfl) ?_
    refine lv_iload_n (pc := 10) hx hb (tb_at tk_X8_rate 6 rfl) rfl (lv_at hl 2 rfl) ?_
    refine k_calli (pc := 11) B (k_runVi (rest := []) (C := RX8) B (c_X8_isPerson l dC dI cI cZ cQ cW z_o z_weight_a z_wants_a z_wantsMany_a z_st_a z_was_a z_images_a z_isKept_a z_told_a z_text_a z_saidWeight_a z_saidNights_a z_saidWants_a z_saidMany_a z_now_a z_gave_a z_at_a z_way_a z_bestWay_a z_made_a z_people z_known z_toldMany z_trace z_texted z_cursor z_start z_token z_number z_isWrong z_items z_saidPeople z_saidLaw z_ringed z_lumps x2 N _ res h) E0_st (fun _ _ _ => trivial) q_c_X8_isPerson q_m_X8_168 q_i_X8_isPerson q_s_X8_isPerson q_n_X8 hd_X8_isPerson ⟨rfl, rfl⟩ ⟨Nat.le_of_ble_eq_true rfl, Nat.le_of_ble_eq_true rfl⟩ hW [0] rfl (by decide +kernel) (q0 := 0) (ci := 8) rfl rfl rfl hl.1 rfl (Nat.le_of_ble_eq_true rfl) (tb_at tk_X8_rate 7 rfl) ⟨Nat.zero_le _, Nat.zero_le _⟩) hW hS [0] rfl [z_o] rfl (fun _ => rfl) [some 0, none, none, none, none] (by decide +kernel) (fun _ => (w_X8_rate cI cZ cQ cW z_o z_weight_a z_wants_a z_wantsMany_a z_st_a z_was_a z_images_a z_isKept_a z_told_a z_text_a z_saidWeight_a z_saidNights_a z_saidWants_a z_saidMany_a z_now_a z_gave_a z_at_a z_way_a z_bestWay_a z_made_a z_people z_known z_toldMany z_trace z_texted z_cursor z_start z_token z_number z_isWrong z_items z_saidPeople z_saidLaw z_ringed z_lumps z_weight z_wantsMany z_wants z_st)) (fun _ => rfl) (fun r11 u H locs h hW hS => ?_)
    have hW : PD (dC, dI) A (w_X8_rate cI cZ cQ cW z_o z_weight_a z_wants_a z_wantsMany_a z_st_a z_was_a z_images_a z_isKept_a z_told_a z_text_a z_saidWeight_a z_saidNights_a z_saidWants_a z_saidMany_a z_now_a z_gave_a z_at_a z_way_a z_bestWay_a z_made_a z_people z_known z_toldMany z_trace z_texted z_cursor z_start z_token z_number z_isWrong z_items z_saidPeople z_saidLaw z_ringed z_lumps z_weight z_wantsMany z_wants z_st) H := hW
    refine lv_if_ne (pc := 14) (tgt := 20) hx hb (tb_at tk_X8_rate 8 rfl) (by decide) (fun cc => ?_) (fun cc => ?_)
    · have h := it_f cc h
      refine lv_aload_n (pc := 20) hx hb (tb_at tk_X8_rate 11 rfl) rfl (lv_at hl 0 rfl) ?_
      refine k_get (pc := 21) (v := .ref z_weight_a) (T := TX8) B inG8 hW 0 rfl rfl 1 (by decide) q_f_X8_7 rfl rfl (tb_at tk_X8_rate 12 rfl) ?_
      refine lv_iload_n (pc := 24) hx hb (tb_at tk_X8_rate 13 rfl) rfl (lv_at hl 2 rfl) ?_
      have ii := ivi_in (ck_l h)
      have h := ck_r h
      refine k_iald (pc := 25) B hW 1 0 rfl rfl ii (tb_at tk_X8_rate 14 rfl) ?_
      refine lv_istore_n (pc := 26) (lv' := [(3, .int (z_weight (x2).toNatClampNeg)), (0, .ref z_o), (1, .int x1), (2, .int x2)]) hx hb (tb_at tk_X8_rate 15 rfl) rfl hl (by decide) rfl (fun ls hl => ?_)
      refine lv_iload_n (pc := 27) hx hb (tb_at tk_X8_rate 16 rfl) rfl (lv_at hl 0 rfl) ?_
      refine lv_aload_n (pc := 28) hx hb (tb_at tk_X8_rate 17 rfl) rfl (lv_at hl 1 rfl) ?_
      refine lv_iload_n (pc := 29) hx hb (tb_at tk_X8_rate 18 rfl) rfl (lv_at hl 3 rfl) ?_
      refine k_calli (pc := 30) B (k_runVi (rest := [.int (z_weight (x2).toNatClampNeg)]) (C := RX8) B (c_X8_wantedBy l dC dI cI cZ cQ cW z_o z_weight_a z_wants_a z_wantsMany_a z_st_a z_was_a z_images_a z_isKept_a z_told_a z_text_a z_saidWeight_a z_saidNights_a z_saidWants_a z_saidMany_a z_now_a z_gave_a z_at_a z_way_a z_bestWay_a z_made_a z_people z_known z_toldMany z_trace z_texted z_cursor z_start z_token z_number z_isWrong z_items z_saidPeople z_saidLaw z_ringed z_lumps z_wantsMany z_wants x2 N _ res h) E0_st (fun _ _ _ => trivial) q_c_X8_wantedBy q_m_X8_210 q_i_X8_wantedBy q_s_X8_wantedBy q_n_X8 hd_X8_wantedBy ⟨rfl, rfl⟩ ⟨Nat.le_of_ble_eq_true rfl, Nat.le_of_ble_eq_true rfl⟩ hW [0, 2, 3] rfl (by decide +kernel) (q0 := 0) (ci := 8) rfl rfl rfl hl.1 rfl (Nat.le_of_ble_eq_true rfl) (tb_at tk_X8_rate 19 rfl) ⟨Nat.zero_le _, Nat.zero_le _⟩) hW hS [0, 2, 3] rfl [z_o, z_wantsMany_a, z_wants_a] rfl (fun _ => rfl) [some 0, none, some 1, some 2, none] (by decide +kernel) (fun _ => (w_X8_rate cI cZ cQ cW z_o z_weight_a z_wants_a z_wantsMany_a z_st_a z_was_a z_images_a z_isKept_a z_told_a z_text_a z_saidWeight_a z_saidNights_a z_saidWants_a z_saidMany_a z_now_a z_gave_a z_at_a z_way_a z_bestWay_a z_made_a z_people z_known z_toldMany z_trace z_texted z_cursor z_start z_token z_number z_isWrong z_items z_saidPeople z_saidLaw z_ringed z_lumps z_weight z_wantsMany z_wants z_st)) (fun _ => rfl) (fun r30 u H locs h hW hS => ?_)
      have hW : PD (dC, dI) A (w_X8_rate cI cZ cQ cW z_o z_weight_a z_wants_a z_wantsMany_a z_st_a z_was_a z_images_a z_isKept_a z_told_a z_text_a z_saidWeight_a z_saidNights_a z_saidWants_a z_saidMany_a z_now_a z_gave_a z_at_a z_way_a z_bestWay_a z_made_a z_people z_known z_toldMany z_trace z_texted z_cursor z_start z_token z_number z_isWrong z_items z_saidPeople z_saidLaw z_ringed z_lumps z_weight z_wantsMany z_wants z_st) H := hW
      refine lv_iadd (pc := 33) hx hb (tb_at tk_X8_rate 20 rfl) ?_
      refine lv_istore (pc := 34) (lv' := [(4, .int ((z_weight (x2).toNatClampNeg) + r30)), (3, .int (z_weight (x2).toNatClampNeg)), (0, .ref z_o), (1, .int x1), (2, .int x2)]) hx hb (tb_at tk_X8_rate 21 rfl) hl (by decide) rfl (fun ls hl => ?_)
      refine lv_iload_n (pc := 36) hx hb (tb_at tk_X8_rate 22 rfl) rfl (lv_at hl 1 rfl) ?_
      refine lv_aload_n (pc := 37) hx hb (tb_at tk_X8_rate 23 rfl) rfl (lv_at hl 2 rfl) ?_
      refine k_get (pc := 38) (v := .ref z_st_a) (T := TX8) B inG8 hW 0 rfl rfl 4 (by decide) q_f_X8_19 rfl rfl (tb_at tk_X8_rate 24 rfl) ?_
      refine lv_bipush (pc := 41) (v := 6) hx hb (tb_at tk_X8_rate 25 rfl) (by decide) ?_
      refine lv_iload_n (pc := 43) hx hb (tb_at tk_X8_rate 26 rfl) rfl (lv_at hl 4 rfl) ?_
      refine lv_iadd (pc := 44) hx hb (tb_at tk_X8_rate 27 rfl) ?_
      have ii := ivi_in (ck_l h)
      have h := ck_r h
      refine k_iald (pc := 45) B hW 4 0 rfl rfl ii (tb_at tk_X8_rate 28 rfl) ?_
      refine lv_isub (pc := 46) hx hb (tb_at tk_X8_rate 29 rfl) ?_
      refine lv_istore (pc := 47) (lv' := [(5, .int ((z_weight (x2).toNatClampNeg) - (z_st ((6 : Int32) + x2).toNatClampNeg))), (4, .int ((z_weight (x2).toNatClampNeg) + r30)), (3, .int (z_weight (x2).toNatClampNeg)), (0, .ref z_o), (1, .int x1), (2, .int x2)]) hx hb (tb_at tk_X8_rate 30 rfl) hl (by decide) rfl (fun ls hl => ?_)
      refine lv_iload_n (pc := 49) hx hb (tb_at tk_X8_rate 31 rfl) rfl (lv_at hl 4 rfl) ?_
      by_cases cs1 : x1 = 1
      · have h := it_t cs1 h
        refine lv_tableIn (pc := 50) (tgt := 84) hx hb (tb_at tk_X8_rate 32 rfl) (by rw [cs1]; decide) (by rw [cs1]; decide) (off := 34) (by rw [cs1]; rfl) (by decide) ?_
        refine lv_aload_n (pc := 84) hx hb (tb_at tk_X8_rate 33 rfl) rfl (lv_at hl 3 rfl) ?_
        refine lv_dup (pc := 85) hx hb (tb_at tk_X8_rate 34 rfl) rfl ?_
        refine k_get (pc := 86) (v := .long z_trace) (T := TX8) B inG8 hW 0 rfl rfl 11 (by decide) q_f_X8_213 rfl rfl (tb_at tk_X8_rate 35 rfl) ?_
        refine lv_ldc2 (pc := 89) (v := 11) hx hb B.2.2.2.2.1 (B.2.2.2.2.2.1 _ q_v_X8_217) (tb_at tk_X8_rate 36 rfl) ?_
        refine lv_ladd (pc := 92) hx hb (tb_at tk_X8_rate 37 rfl) ?_
        refine k_put (pc := 93) (T := TX8) B inG8 tyX8 tyX8_ok nmX8 hW hS 0 rfl rfl 11 (by decide) q_f_X8_213 rfl rfl rfl rfl (Nat.le_of_ble_eq_true rfl) (tb_at tk_X8_rate 38 rfl) (w_X8_rate cI cZ cQ cW z_o z_weight_a z_wants_a z_wantsMany_a z_st_a z_was_a z_images_a z_isKept_a z_told_a z_text_a z_saidWeight_a z_saidNights_a z_saidWants_a z_saidMany_a z_now_a z_gave_a z_at_a z_way_a z_bestWay_a z_made_a z_people z_known z_toldMany (z_trace + 11) z_texted z_cursor z_start z_token z_number z_isWrong z_items z_saidPeople z_saidLaw z_ringed z_lumps z_weight z_wantsMany z_wants z_st) rfl (fun H locs hW hS => ?_)
        refine lv_iload (pc := 96) hx hb (tb_at tk_X8_rate 39 rfl) (lv_at hl 1 rfl) ?_
        exact hQ ((z_weight (x2).toNatClampNeg) + r30) (z_trace + 11) _ _ _ 98 rfl h hW hS (tb_at tk_X8_rate 40 rfl)
      · have h := it_f cs1 h
        by_cases cs2 : x1 = 2
        · have h := it_t cs2 h
          refine lv_tableIn (pc := 50) (tgt := 99) hx hb (tb_at tk_X8_rate 32 rfl) (by rw [cs2]; decide) (by rw [cs2]; decide) (off := 49) (by rw [cs2]; rfl) (by decide) ?_
          refine lv_aload_n (pc := 99) hx hb (tb_at tk_X8_rate 41 rfl) rfl (lv_at hl 3 rfl) ?_
          refine lv_dup (pc := 100) hx hb (tb_at tk_X8_rate 42 rfl) rfl ?_
          refine k_get (pc := 101) (v := .long z_trace) (T := TX8) B inG8 hW 0 rfl rfl 11 (by decide) q_f_X8_213 rfl rfl (tb_at tk_X8_rate 43 rfl) ?_
          refine lv_ldc2 (pc := 104) (v := 101) hx hb B.2.2.2.2.1 (B.2.2.2.2.2.1 _ q_v_X8_219) (tb_at tk_X8_rate 44 rfl) ?_
          refine lv_ladd (pc := 107) hx hb (tb_at tk_X8_rate 45 rfl) ?_
          refine k_put (pc := 108) (T := TX8) B inG8 tyX8 tyX8_ok nmX8 hW hS 0 rfl rfl 11 (by decide) q_f_X8_213 rfl rfl rfl rfl (Nat.le_of_ble_eq_true rfl) (tb_at tk_X8_rate 46 rfl) (w_X8_rate cI cZ cQ cW z_o z_weight_a z_wants_a z_wantsMany_a z_st_a z_was_a z_images_a z_isKept_a z_told_a z_text_a z_saidWeight_a z_saidNights_a z_saidWants_a z_saidMany_a z_now_a z_gave_a z_at_a z_way_a z_bestWay_a z_made_a z_people z_known z_toldMany (z_trace + 101) z_texted z_cursor z_start z_token z_number z_isWrong z_items z_saidPeople z_saidLaw z_ringed z_lumps z_weight z_wantsMany z_wants z_st) rfl (fun H locs hW hS => ?_)
          refine lv_iload (pc := 111) hx hb (tb_at tk_X8_rate 47 rfl) (lv_at hl 0 rfl) ?_
          exact hQ ((z_weight (x2).toNatClampNeg) - (z_st ((6 : Int32) + x2).toNatClampNeg)) (z_trace + 101) _ _ _ 113 rfl h hW hS (tb_at tk_X8_rate 48 rfl)
        · have h := it_f cs2 h
          by_cases cs3 : x1 = 3
          · have h := it_t cs3 h
            refine lv_tableIn (pc := 50) (tgt := 114) hx hb (tb_at tk_X8_rate 32 rfl) (by rw [cs3]; decide) (by rw [cs3]; decide) (off := 64) (by rw [cs3]; rfl) (by decide) ?_
            refine lv_aload_n (pc := 114) hx hb (tb_at tk_X8_rate 49 rfl) rfl (lv_at hl 3 rfl) ?_
            refine lv_dup (pc := 115) hx hb (tb_at tk_X8_rate 50 rfl) rfl ?_
            refine k_get (pc := 116) (v := .long z_trace) (T := TX8) B inG8 hW 0 rfl rfl 11 (by decide) q_f_X8_213 rfl rfl (tb_at tk_X8_rate 51 rfl) ?_
            refine lv_ldc2 (pc := 119) (v := 1011) hx hb B.2.2.2.2.1 (B.2.2.2.2.2.1 _ q_v_X8_221) (tb_at tk_X8_rate 52 rfl) ?_
            refine lv_ladd (pc := 122) hx hb (tb_at tk_X8_rate 53 rfl) ?_
            refine k_put (pc := 123) (T := TX8) B inG8 tyX8 tyX8_ok nmX8 hW hS 0 rfl rfl 11 (by decide) q_f_X8_213 rfl rfl rfl rfl (Nat.le_of_ble_eq_true rfl) (tb_at tk_X8_rate 54 rfl) (w_X8_rate cI cZ cQ cW z_o z_weight_a z_wants_a z_wantsMany_a z_st_a z_was_a z_images_a z_isKept_a z_told_a z_text_a z_saidWeight_a z_saidNights_a z_saidWants_a z_saidMany_a z_now_a z_gave_a z_at_a z_way_a z_bestWay_a z_made_a z_people z_known z_toldMany (z_trace + 1011) z_texted z_cursor z_start z_token z_number z_isWrong z_items z_saidPeople z_saidLaw z_ringed z_lumps z_weight z_wantsMany z_wants z_st) rfl (fun H locs hW hS => ?_)
            refine lv_iconst (pc := 126) (v := 2) hx hb (tb_at tk_X8_rate 55 rfl) (by decide) ?_
            refine lv_iload (pc := 127) hx hb (tb_at tk_X8_rate 56 rfl) (lv_at hl 1 rfl) ?_
            refine lv_imul (pc := 129) hx hb (tb_at tk_X8_rate 57 rfl) ?_
            exact hQ ((2 : Int32) * ((z_weight (x2).toNatClampNeg) + r30)) (z_trace + 1011) _ _ _ 130 rfl h hW hS (tb_at tk_X8_rate 58 rfl)
          · have h := it_f cs3 h
            by_cases cs4 : x1 = 4
            · have h := it_t cs4 h
              refine lv_tableIn (pc := 50) (tgt := 131) hx hb (tb_at tk_X8_rate 32 rfl) (by rw [cs4]; decide) (by rw [cs4]; decide) (off := 81) (by rw [cs4]; rfl) (by decide) ?_
              refine lv_aload_n (pc := 131) hx hb (tb_at tk_X8_rate 59 rfl) rfl (lv_at hl 3 rfl) ?_
              refine lv_dup (pc := 132) hx hb (tb_at tk_X8_rate 60 rfl) rfl ?_
              refine k_get (pc := 133) (v := .long z_trace) (T := TX8) B inG8 hW 0 rfl rfl 11 (by decide) q_f_X8_213 rfl rfl (tb_at tk_X8_rate 61 rfl) ?_
              refine lv_ldc2 (pc := 136) (v := 10101) hx hb B.2.2.2.2.1 (B.2.2.2.2.2.1 _ q_v_X8_223) (tb_at tk_X8_rate 62 rfl) ?_
              refine lv_ladd (pc := 139) hx hb (tb_at tk_X8_rate 63 rfl) ?_
              refine k_put (pc := 140) (T := TX8) B inG8 tyX8 tyX8_ok nmX8 hW hS 0 rfl rfl 11 (by decide) q_f_X8_213 rfl rfl rfl rfl (Nat.le_of_ble_eq_true rfl) (tb_at tk_X8_rate 64 rfl) (w_X8_rate cI cZ cQ cW z_o z_weight_a z_wants_a z_wantsMany_a z_st_a z_was_a z_images_a z_isKept_a z_told_a z_text_a z_saidWeight_a z_saidNights_a z_saidWants_a z_saidMany_a z_now_a z_gave_a z_at_a z_way_a z_bestWay_a z_made_a z_people z_known z_toldMany (z_trace + 10101) z_texted z_cursor z_start z_token z_number z_isWrong z_items z_saidPeople z_saidLaw z_ringed z_lumps z_weight z_wantsMany z_wants z_st) rfl (fun H locs hW hS => ?_)
              refine lv_iload (pc := 143) hx hb (tb_at tk_X8_rate 65 rfl) (lv_at hl 0 rfl) ?_
              refine lv_aload_n (pc := 145) hx hb (tb_at tk_X8_rate 66 rfl) rfl (lv_at hl 3 rfl) ?_
              refine lv_iload_n (pc := 146) hx hb (tb_at tk_X8_rate 67 rfl) rfl (lv_at hl 5 rfl) ?_
              refine k_calli (pc := 147) B (k_runVi (rest := [.int ((z_weight (x2).toNatClampNeg) - (z_st ((6 : Int32) + x2).toNatClampNeg))]) (C := RX8) B (c_X8_whoHas l dC dI cI cZ cQ cW z_o z_weight_a z_wants_a z_wantsMany_a z_st_a z_was_a z_images_a z_isKept_a z_told_a z_text_a z_saidWeight_a z_saidNights_a z_saidWants_a z_saidMany_a z_now_a z_gave_a z_at_a z_way_a z_bestWay_a z_made_a z_people z_known z_toldMany (z_trace + 10101) z_texted z_cursor z_start z_token z_number z_isWrong z_items z_saidPeople z_saidLaw z_ringed z_lumps z_st x2 N _ res h) E0_st (fun _ _ _ => trivial) q_c_X8_whoHas q_m_X8_225 q_i_X8_whoHas q_s_X8_whoHas q_n_X8 hd_X8_whoHas ⟨rfl, rfl⟩ ⟨Nat.le_of_ble_eq_true rfl, Nat.le_of_ble_eq_true rfl⟩ hW [0, 4] rfl (by decide +kernel) (q0 := 0) (ci := 8) rfl rfl rfl hl.1 rfl (Nat.le_of_ble_eq_true rfl) (tb_at tk_X8_rate 68 rfl) ⟨Nat.zero_le _, Nat.zero_le _⟩) hW hS [0, 4] rfl [z_o, z_st_a] rfl (fun _ => rfl) [some 0, none, none, none, some 1] (by decide +kernel) (fun _ => (w_X8_rate cI cZ cQ cW z_o z_weight_a z_wants_a z_wantsMany_a z_st_a z_was_a z_images_a z_isKept_a z_told_a z_text_a z_saidWeight_a z_saidNights_a z_saidWants_a z_saidMany_a z_now_a z_gave_a z_at_a z_way_a z_bestWay_a z_made_a z_people z_known z_toldMany (z_trace + 10101) z_texted z_cursor z_start z_token z_number z_isWrong z_items z_saidPeople z_saidLaw z_ringed z_lumps z_weight z_wantsMany z_wants z_st)) (fun _ => rfl) (fun r147 u H locs h hW hS => ?_)
              have hW : PD (dC, dI) A (w_X8_rate cI cZ cQ cW z_o z_weight_a z_wants_a z_wantsMany_a z_st_a z_was_a z_images_a z_isKept_a z_told_a z_text_a z_saidWeight_a z_saidNights_a z_saidWants_a z_saidMany_a z_now_a z_gave_a z_at_a z_way_a z_bestWay_a z_made_a z_people z_known z_toldMany (z_trace + 10101) z_texted z_cursor z_start z_token z_number z_isWrong z_items z_saidPeople z_saidLaw z_ringed z_lumps z_weight z_wantsMany z_wants z_st) H := hW
              refine lv_iadd (pc := 150) hx hb (tb_at tk_X8_rate 69 rfl) ?_
              exact hQ (((z_weight (x2).toNatClampNeg) - (z_st ((6 : Int32) + x2).toNatClampNeg)) + r147) (z_trace + 10101) _ _ _ 151 rfl h hW hS (tb_at tk_X8_rate 70 rfl)
            · have h := it_f cs4 h
              by_cases cs5 : x1 = 5
              · have h := it_t cs5 h
                refine lv_tableIn (pc := 50) (tgt := 152) hx hb (tb_at tk_X8_rate 32 rfl) (by rw [cs5]; decide) (by rw [cs5]; decide) (off := 102) (by rw [cs5]; rfl) (by decide) ?_
                refine lv_aload_n (pc := 152) hx hb (tb_at tk_X8_rate 71 rfl) rfl (lv_at hl 3 rfl) ?_
                refine lv_dup (pc := 153) hx hb (tb_at tk_X8_rate 72 rfl) rfl ?_
                refine k_get (pc := 154) (v := .long z_trace) (T := TX8) B inG8 hW 0 rfl rfl 11 (by decide) q_f_X8_213 rfl rfl (tb_at tk_X8_rate 73 rfl) ?_
                refine lv_ldc2 (pc := 157) (v := 100001) hx hb B.2.2.2.2.1 (B.2.2.2.2.2.1 _ q_v_X8_228) (tb_at tk_X8_rate 74 rfl) ?_
                refine lv_ladd (pc := 160) hx hb (tb_at tk_X8_rate 75 rfl) ?_
                refine k_put (pc := 161) (T := TX8) B inG8 tyX8 tyX8_ok nmX8 hW hS 0 rfl rfl 11 (by decide) q_f_X8_213 rfl rfl rfl rfl (Nat.le_of_ble_eq_true rfl) (tb_at tk_X8_rate 76 rfl) (w_X8_rate cI cZ cQ cW z_o z_weight_a z_wants_a z_wantsMany_a z_st_a z_was_a z_images_a z_isKept_a z_told_a z_text_a z_saidWeight_a z_saidNights_a z_saidWants_a z_saidMany_a z_now_a z_gave_a z_at_a z_way_a z_bestWay_a z_made_a z_people z_known z_toldMany (z_trace + 100001) z_texted z_cursor z_start z_token z_number z_isWrong z_items z_saidPeople z_saidLaw z_ringed z_lumps z_weight z_wantsMany z_wants z_st) rfl (fun H locs hW hS => ?_)
                refine lv_iload_n (pc := 164) hx hb (tb_at tk_X8_rate 77 rfl) rfl (lv_at hl 2 rfl) ?_
                refine lv_aload_n (pc := 165) hx hb (tb_at tk_X8_rate 78 rfl) rfl (lv_at hl 3 rfl) ?_
                refine k_get (pc := 166) (v := .ref z_st_a) (T := TX8) B inG8 hW 0 rfl rfl 4 (by decide) q_f_X8_19 rfl rfl (tb_at tk_X8_rate 79 rfl) ?_
                refine lv_bipush (pc := 169) (v := 23) hx hb (tb_at tk_X8_rate 80 rfl) (by decide) ?_
                have ii := ivi_in (ck_l h)
                have h := ck_r h
                refine k_iald (pc := 171) B hW 4 0 rfl rfl ii (tb_at tk_X8_rate 81 rfl) ?_
                refine lv_iadd (pc := 172) hx hb (tb_at tk_X8_rate 82 rfl) ?_
                exact hQ ((z_weight (x2).toNatClampNeg) + (z_st ((23 : Int32)).toNatClampNeg)) (z_trace + 100001) _ _ _ 173 rfl h hW hS (tb_at tk_X8_rate 83 rfl)
              · have h := it_f cs5 h
                refine lv_tableOut (pc := 50) (tgt := 174) hx hb (tb_at tk_X8_rate 32 rfl) (ts_out1_5 cs1 cs2 cs3 cs4 cs5) (by decide) ?_
                refine lv_aload_n (pc := 174) hx hb (tb_at tk_X8_rate 84 rfl) rfl (lv_at hl 3 rfl) ?_
                refine lv_dup (pc := 175) hx hb (tb_at tk_X8_rate 85 rfl) rfl ?_
                refine k_get (pc := 176) (v := .long z_trace) (T := TX8) B inG8 hW 0 rfl rfl 11 (by decide) q_f_X8_213 rfl rfl (tb_at tk_X8_rate 86 rfl) ?_
                refine lv_lconst (pc := 179) (v := 1) hx hb (tb_at tk_X8_rate 87 rfl) (by decide) ?_
                refine lv_ladd (pc := 180) hx hb (tb_at tk_X8_rate 88 rfl) ?_
                refine k_put (pc := 181) (T := TX8) B inG8 tyX8 tyX8_ok nmX8 hW hS 0 rfl rfl 11 (by decide) q_f_X8_213 rfl rfl rfl rfl (Nat.le_of_ble_eq_true rfl) (tb_at tk_X8_rate 89 rfl) (w_X8_rate cI cZ cQ cW z_o z_weight_a z_wants_a z_wantsMany_a z_st_a z_was_a z_images_a z_isKept_a z_told_a z_text_a z_saidWeight_a z_saidNights_a z_saidWants_a z_saidMany_a z_now_a z_gave_a z_at_a z_way_a z_bestWay_a z_made_a z_people z_known z_toldMany (z_trace + 1) z_texted z_cursor z_start z_token z_number z_isWrong z_items z_saidPeople z_saidLaw z_ringed z_lumps z_weight z_wantsMany z_wants z_st) rfl (fun H locs hW hS => ?_)
                refine lv_iload_n (pc := 184) hx hb (tb_at tk_X8_rate 90 rfl) rfl (lv_at hl 2 rfl) ?_
                exact hQ (z_weight (x2).toNatClampNeg) (z_trace + 1) _ _ _ 185 rfl h hW hS (tb_at tk_X8_rate 91 rfl)
    · have h := it_t cc h
      refine lv_ldc (pc := 17) (v := (-1000000)) hx hb B.2.2.2.2.1 (B.2.2.2.2.2.1 _ q_v_X8_209) (tb_at tk_X8_rate 9 rfl) ?_
      exact hQ (-1000000) (z_trace) _ _ _ 19 rfl h hW hS (tb_at tk_X8_rate 10 rfl)
def f_X8_keep {ρ : Type} (N : Nat) (z_st : Nat → Int32) (z_images : Nat → Int32) (z_isKept : Nat → Int32) (x1 : Int32) (k : Int32 → (Nat → Int32) → (Nat → Int32) → Option ρ) : Option ρ := f_X8_in N x1 0 1 (fun r3 => if r3 = 0 then (k (-1) z_images z_isKept) else (f_X8_copy N z_st z_images 25 50 ((25 : Int32) * x1) 0 (fun z_images_24 => ck (ivi x1 2) (ck (ivi (23 : Int32) 25) (k (z_st ((23 : Int32)).toNatClampNeg) z_images_24 (upd z_isKept (x1).toNatClampNeg 1))))))
abbrev w_X8_keep (cI cZ cQ cW : ClassId) (z_o : Nat) (z_weight_a : Nat) (z_wants_a : Nat) (z_wantsMany_a : Nat) (z_st_a : Nat) (z_was_a : Nat) (z_images_a : Nat) (z_isKept_a : Nat) (z_told_a : Nat) (z_text_a : Nat) (z_saidWeight_a : Nat) (z_saidNights_a : Nat) (z_saidWants_a : Nat) (z_saidMany_a : Nat) (z_now_a : Nat) (z_gave_a : Nat) (z_at_a : Nat) (z_way_a : Nat) (z_bestWay_a : Nat) (z_made_a : Nat) (z_people : Int32) (z_known : Int32) (z_toldMany : Int32) (z_trace : Int64) (z_texted : Int32) (z_cursor : Int32) (z_start : Int32) (z_token : Int32) (z_number : Int32) (z_isWrong : Int32) (z_items : Int32) (z_saidPeople : Int32) (z_saidLaw : Int32) (z_ringed : Int32) (z_lumps : Int32) (z_st : Nat → Int32) (z_images : Nat → Int32) (z_isKept : Nat → Int32) : va_W := [(z_o, .inr (8, [.int z_people, .ref z_weight_a, .ref z_wants_a, .ref z_wantsMany_a, .ref z_st_a, .ref z_was_a, .int z_known, .ref z_images_a, .ref z_isKept_a, .int z_toldMany, .ref z_told_a, .long z_trace, .ref z_text_a, .int z_texted, .int z_cursor, .int z_start, .int z_token, .int z_number, .int z_isWrong, .int z_items, .int z_saidPeople, .ref z_saidWeight_a, .ref z_saidNights_a, .ref z_saidWants_a, .ref z_saidMany_a, .int z_saidLaw, .ref z_now_a, .ref z_gave_a, .ref z_at_a, .int z_ringed, .int z_lumps, .ref z_way_a, .ref z_bestWay_a, .ref z_made_a])), (z_st_a, .inl (cI, 25, .inl z_st)), (z_images_a, .inl (cI, 50, .inl z_images)), (z_isKept_a, .inl (cZ, 2, .inl z_isKept))]
abbrev rm_X8_keep : Room := { frames := 1, cells := 0, slots := 0, locals := 24 }
set_option maxHeartbeats 4000000 in
set_option maxRecDepth 100000 in
theorem c_X8_keep (l : Launch) (dC : Nat → ClassId) (dI : Nat → Nat → Nat) (cI cZ cQ cW : ClassId) (z_o : Nat) (z_weight_a : Nat) (z_wants_a : Nat) (z_wantsMany_a : Nat) (z_st_a : Nat) (z_was_a : Nat) (z_images_a : Nat) (z_isKept_a : Nat) (z_told_a : Nat) (z_text_a : Nat) (z_saidWeight_a : Nat) (z_saidNights_a : Nat) (z_saidWants_a : Nat) (z_saidMany_a : Nat) (z_now_a : Nat) (z_gave_a : Nat) (z_at_a : Nat) (z_way_a : Nat) (z_bestWay_a : Nat) (z_made_a : Nat) (z_people : Int32) (z_known : Int32) (z_toldMany : Int32) (z_trace : Int64) (z_texted : Int32) (z_cursor : Int32) (z_start : Int32) (z_token : Int32) (z_number : Int32) (z_isWrong : Int32) (z_items : Int32) (z_saidPeople : Int32) (z_saidLaw : Int32) (z_ringed : Int32) (z_lumps : Int32) (z_st : Nat → Int32) (z_images : Nat → Int32) (z_isKept : Nat → Int32) (x1 : Int32) {ρ : Type} (N : Nat) (k : Int32 → (Nat → Int32) → (Nat → Int32) → Option ρ) (res : ρ) (h : f_X8_keep N z_st z_images z_isKept x1 k = some res) : Ci l yX8_keep (WS yX8_keep cX8_keep 2 (some .int)) rm_X8_keep (dC, dI) (tysG cI cZ cQ cW) E0 [.ref z_o, .int x1] (w_X8_keep cI cZ cQ cW z_o z_weight_a z_wants_a z_wantsMany_a z_st_a z_was_a z_images_a z_isKept_a z_told_a z_text_a z_saidWeight_a z_saidNights_a z_saidWants_a z_saidMany_a z_now_a z_gave_a z_at_a z_way_a z_bestWay_a z_made_a z_people z_known z_toldMany z_trace z_texted z_cursor z_start z_token z_number z_isWrong z_items z_saidPeople z_saidLaw z_ringed z_lumps z_st z_images z_isKept) (fun (u : (Nat → Int32) × (Nat → Int32)) => (w_X8_keep cI cZ cQ cW z_o z_weight_a z_wants_a z_wantsMany_a z_st_a z_was_a z_images_a z_isKept_a z_told_a z_text_a z_saidWeight_a z_saidNights_a z_saidWants_a z_saidMany_a z_now_a z_gave_a z_at_a z_way_a z_bestWay_a z_made_a z_people z_known z_toldMany z_trace z_texted z_cursor z_start z_token z_number z_isWrong z_items z_saidPeople z_saidLaw z_ringed z_lumps z_st u.1 u.2)) (fun r u => k r u.1 u.2 = some res) := by
  refine Ci.of (cc := cX8_keep) (n := 2) (by decide +kernel) (Nat.le_of_ble_eq_true rfl) ?_
  intro p e s m args below meth c A ls Q B hW hE hS hl hQ
  have hx := B.1
  have hb := B.2.1
  have hl : lv_has ls 2 [(0, .ref z_o), (1, .int x1)] := hl
  unfold f_X8_keep at h
  refine lv_iload_n (pc := 0) hx hb (tb_at tk_X8_keep 0 rfl) rfl (lv_at hl 1 rfl) ?_
  refine lv_iconst (pc := 1) (v := 0) hx hb (tb_at tk_X8_keep 1 rfl) (by decide) ?_
  refine lv_iconst (pc := 2) (v := 1) hx hb (tb_at tk_X8_keep 2 rfl) (by decide) ?_
  refine k_call0 (pc := 3) B (k_runSi (rest := []) (host := "") B (c_X8_in l dC dI cI cZ cQ cW   x1 0 1 N _ res h) E0_st (fun _ _ _ => trivial) q_c_X8_in q_m_X8_72 q_t_X8_in q_n_X8 hd_X8_in ⟨rfl, rfl⟩ ⟨Nat.le_of_ble_eq_true rfl, Nat.le_of_ble_eq_true rfl⟩ hW [] rfl (by decide +kernel) rfl hl.1 rfl (Nat.le_of_ble_eq_true rfl) (tb_at tk_X8_keep 3 rfl) ⟨Nat.zero_le _, Nat.zero_le _⟩) hW hS (fun r3 u H locs h hW hS => ?_)
  refine lv_if_ne (pc := 6) (tgt := 11) hx hb (tb_at tk_X8_keep 4 rfl) (by decide) (fun cc => ?_) (fun cc => ?_)
  · have h := it_f cc h
    refine lv_aload_n (pc := 11) hx hb (tb_at tk_X8_keep 7 rfl) rfl (lv_at hl 0 rfl) ?_
    refine k_get (pc := 12) (v := .ref z_images_a) (T := TX8) B inG8 hW 0 rfl rfl 7 (by decide) q_f_X8_25 rfl rfl (tb_at tk_X8_keep 8 rfl) ?_
    refine lv_bipush (pc := 15) (v := 25) hx hb (tb_at tk_X8_keep 9 rfl) (by decide) ?_
    refine lv_iload_n (pc := 17) hx hb (tb_at tk_X8_keep 10 rfl) rfl (lv_at hl 1 rfl) ?_
    refine lv_imul (pc := 18) hx hb (tb_at tk_X8_keep 11 rfl) ?_
    refine lv_aload_n (pc := 19) hx hb (tb_at tk_X8_keep 12 rfl) rfl (lv_at hl 0 rfl) ?_
    refine k_get (pc := 20) (v := .ref z_st_a) (T := TX8) B inG8 hW 0 rfl rfl 4 (by decide) q_f_X8_19 rfl rfl (tb_at tk_X8_keep 13 rfl) ?_
    refine lv_iconst (pc := 23) (v := 0) hx hb (tb_at tk_X8_keep 14 rfl) (by decide) ?_
    refine k_callv (pc := 24) B (k_runSv (rest := []) (host := "") B (c_X8_copy l dC dI cI cZ cQ cW z_st_a 25 z_images_a 50 z_st z_images ((25 : Int32) * x1) 0 N _ res h) E0_st (fun _ _ _ => trivial) q_c_X8_copy q_m_X8_141 q_t_X8_copy q_n_X8 hd_X8_copy ⟨rfl, rfl⟩ ⟨Nat.le_of_ble_eq_true rfl, Nat.le_of_ble_eq_true rfl⟩ hW [1, 2] rfl (by decide +kernel) rfl hl.1 rfl (Nat.le_of_ble_eq_true rfl) (tb_at tk_X8_keep 15 rfl) ⟨Nat.zero_le _, Nat.zero_le _⟩) hW hS [1, 2] rfl [z_st_a, z_images_a] rfl (fun _ => rfl) [none, some 0, some 1, none] (by decide +kernel) (fun u => (w_X8_keep cI cZ cQ cW z_o z_weight_a z_wants_a z_wantsMany_a z_st_a z_was_a z_images_a z_isKept_a z_told_a z_text_a z_saidWeight_a z_saidNights_a z_saidWants_a z_saidMany_a z_now_a z_gave_a z_at_a z_way_a z_bestWay_a z_made_a z_people z_known z_toldMany z_trace z_texted z_cursor z_start z_token z_number z_isWrong z_items z_saidPeople z_saidLaw z_ringed z_lumps z_st u z_isKept)) (fun _ => rfl) (fun u H locs h hW hS => ?_)
    obtain ⟨z_images_24, rfl⟩ : ∃ z9, z9 = u := ⟨_, rfl⟩
    have hW : PD (dC, dI) A (w_X8_keep cI cZ cQ cW z_o z_weight_a z_wants_a z_wantsMany_a z_st_a z_was_a z_images_a z_isKept_a z_told_a z_text_a z_saidWeight_a z_saidNights_a z_saidWants_a z_saidMany_a z_now_a z_gave_a z_at_a z_way_a z_bestWay_a z_made_a z_people z_known z_toldMany z_trace z_texted z_cursor z_start z_token z_number z_isWrong z_items z_saidPeople z_saidLaw z_ringed z_lumps z_st z_images_24 z_isKept) H := hW
    refine lv_aload_n (pc := 27) hx hb (tb_at tk_X8_keep 16 rfl) rfl (lv_at hl 0 rfl) ?_
    refine k_get (pc := 28) (v := .ref z_isKept_a) (T := TX8) B inG8 hW 0 rfl rfl 8 (by decide) q_f_X8_28 rfl rfl (tb_at tk_X8_keep 17 rfl) ?_
    refine lv_iload_n (pc := 31) hx hb (tb_at tk_X8_keep 18 rfl) rfl (lv_at hl 1 rfl) ?_
    refine lv_iconst (pc := 32) (v := 1) hx hb (tb_at tk_X8_keep 19 rfl) (by decide) ?_
    have ii := ivi_in (ck_l h)
    have h := ck_r h
    refine k_zast (pc := 33) B hW hS 3 1 rfl rfl ii pz1 (tb_at tk_X8_keep 20 rfl) (w_X8_keep cI cZ cQ cW z_o z_weight_a z_wants_a z_wantsMany_a z_st_a z_was_a z_images_a z_isKept_a z_told_a z_text_a z_saidWeight_a z_saidNights_a z_saidWants_a z_saidMany_a z_now_a z_gave_a z_at_a z_way_a z_bestWay_a z_made_a z_people z_known z_toldMany z_trace z_texted z_cursor z_start z_token z_number z_isWrong z_items z_saidPeople z_saidLaw z_ringed z_lumps z_st z_images_24 (upd z_isKept (x1).toNatClampNeg 1)) rfl (fun H locs hW hS => ?_)
    refine lv_aload_n (pc := 34) hx hb (tb_at tk_X8_keep 21 rfl) rfl (lv_at hl 0 rfl) ?_
    refine k_get (pc := 35) (v := .ref z_st_a) (T := TX8) B inG8 hW 0 rfl rfl 4 (by decide) q_f_X8_19 rfl rfl (tb_at tk_X8_keep 22 rfl) ?_
    refine lv_bipush (pc := 38) (v := 23) hx hb (tb_at tk_X8_keep 23 rfl) (by decide) ?_
    have ii := ivi_in (ck_l h)
    have h := ck_r h
    refine k_iald (pc := 40) B hW 1 0 rfl rfl ii (tb_at tk_X8_keep 24 rfl) ?_
    exact hQ (z_st ((23 : Int32)).toNatClampNeg) (z_images_24, upd z_isKept (x1).toNatClampNeg 1) _ _ _ 41 rfl h hW hS (tb_at tk_X8_keep 25 rfl)
  · have h := it_t cc h
    refine lv_iconst (pc := 9) (v := (-1)) hx hb (tb_at tk_X8_keep 5 rfl) (by decide) ?_
    exact hQ (-1) (z_images, z_isKept) _ _ _ 10 rfl h hW hS (tb_at tk_X8_keep 6 rfl)
def f_X8_back {ρ : Type} (N : Nat) (z_known : Int32) (z_isKept : Nat → Int32) (z_images : Nat → Int32) (z_st : Nat → Int32) (x1 : Int32) (k : Int32 → Int32 → (Nat → Int32) → Option ρ) : Option ρ := f_X8_in N x1 0 1 (fun r3 => if r3 = 0 then (k (-1) z_known z_st) else (ck (ivi x1 2) (if (z_isKept (x1).toNatClampNeg) = 0 then (k (-2) z_known z_st) else (f_X8_copy N z_images z_st 50 25 0 ((25 : Int32) * x1) (fun z_st_36 => ck (ivi (23 : Int32) 25) (k (z_st_36 ((23 : Int32)).toNatClampNeg) 0 z_st_36))))))
abbrev w_X8_back (cI cZ cQ cW : ClassId) (z_o : Nat) (z_weight_a : Nat) (z_wants_a : Nat) (z_wantsMany_a : Nat) (z_st_a : Nat) (z_was_a : Nat) (z_images_a : Nat) (z_isKept_a : Nat) (z_told_a : Nat) (z_text_a : Nat) (z_saidWeight_a : Nat) (z_saidNights_a : Nat) (z_saidWants_a : Nat) (z_saidMany_a : Nat) (z_now_a : Nat) (z_gave_a : Nat) (z_at_a : Nat) (z_way_a : Nat) (z_bestWay_a : Nat) (z_made_a : Nat) (z_people : Int32) (z_known : Int32) (z_toldMany : Int32) (z_trace : Int64) (z_texted : Int32) (z_cursor : Int32) (z_start : Int32) (z_token : Int32) (z_number : Int32) (z_isWrong : Int32) (z_items : Int32) (z_saidPeople : Int32) (z_saidLaw : Int32) (z_ringed : Int32) (z_lumps : Int32) (z_isKept : Nat → Int32) (z_images : Nat → Int32) (z_st : Nat → Int32) : va_W := [(z_o, .inr (8, [.int z_people, .ref z_weight_a, .ref z_wants_a, .ref z_wantsMany_a, .ref z_st_a, .ref z_was_a, .int z_known, .ref z_images_a, .ref z_isKept_a, .int z_toldMany, .ref z_told_a, .long z_trace, .ref z_text_a, .int z_texted, .int z_cursor, .int z_start, .int z_token, .int z_number, .int z_isWrong, .int z_items, .int z_saidPeople, .ref z_saidWeight_a, .ref z_saidNights_a, .ref z_saidWants_a, .ref z_saidMany_a, .int z_saidLaw, .ref z_now_a, .ref z_gave_a, .ref z_at_a, .int z_ringed, .int z_lumps, .ref z_way_a, .ref z_bestWay_a, .ref z_made_a])), (z_isKept_a, .inl (cZ, 2, .inl z_isKept)), (z_images_a, .inl (cI, 50, .inl z_images)), (z_st_a, .inl (cI, 25, .inl z_st))]
abbrev rm_X8_back : Room := { frames := 1, cells := 0, slots := 0, locals := 24 }
set_option maxHeartbeats 4000000 in
set_option maxRecDepth 100000 in
theorem c_X8_back (l : Launch) (dC : Nat → ClassId) (dI : Nat → Nat → Nat) (cI cZ cQ cW : ClassId) (z_o : Nat) (z_weight_a : Nat) (z_wants_a : Nat) (z_wantsMany_a : Nat) (z_st_a : Nat) (z_was_a : Nat) (z_images_a : Nat) (z_isKept_a : Nat) (z_told_a : Nat) (z_text_a : Nat) (z_saidWeight_a : Nat) (z_saidNights_a : Nat) (z_saidWants_a : Nat) (z_saidMany_a : Nat) (z_now_a : Nat) (z_gave_a : Nat) (z_at_a : Nat) (z_way_a : Nat) (z_bestWay_a : Nat) (z_made_a : Nat) (z_people : Int32) (z_known : Int32) (z_toldMany : Int32) (z_trace : Int64) (z_texted : Int32) (z_cursor : Int32) (z_start : Int32) (z_token : Int32) (z_number : Int32) (z_isWrong : Int32) (z_items : Int32) (z_saidPeople : Int32) (z_saidLaw : Int32) (z_ringed : Int32) (z_lumps : Int32) (z_isKept : Nat → Int32) (z_images : Nat → Int32) (z_st : Nat → Int32) (x1 : Int32) {ρ : Type} (N : Nat) (k : Int32 → Int32 → (Nat → Int32) → Option ρ) (res : ρ) (h : f_X8_back N z_known z_isKept z_images z_st x1 k = some res) : Ci l yX8_back (WS yX8_back cX8_back 2 (some .int)) rm_X8_back (dC, dI) (tysG cI cZ cQ cW) E0 [.ref z_o, .int x1] (w_X8_back cI cZ cQ cW z_o z_weight_a z_wants_a z_wantsMany_a z_st_a z_was_a z_images_a z_isKept_a z_told_a z_text_a z_saidWeight_a z_saidNights_a z_saidWants_a z_saidMany_a z_now_a z_gave_a z_at_a z_way_a z_bestWay_a z_made_a z_people z_known z_toldMany z_trace z_texted z_cursor z_start z_token z_number z_isWrong z_items z_saidPeople z_saidLaw z_ringed z_lumps z_isKept z_images z_st) (fun (u : Int32 × (Nat → Int32)) => (w_X8_back cI cZ cQ cW z_o z_weight_a z_wants_a z_wantsMany_a z_st_a z_was_a z_images_a z_isKept_a z_told_a z_text_a z_saidWeight_a z_saidNights_a z_saidWants_a z_saidMany_a z_now_a z_gave_a z_at_a z_way_a z_bestWay_a z_made_a z_people u.1 z_toldMany z_trace z_texted z_cursor z_start z_token z_number z_isWrong z_items z_saidPeople z_saidLaw z_ringed z_lumps z_isKept z_images u.2)) (fun r u => k r u.1 u.2 = some res) := by
  refine Ci.of (cc := cX8_back) (n := 2) (by decide +kernel) (Nat.le_of_ble_eq_true rfl) ?_
  intro p e s m args below meth c A ls Q B hW hE hS hl hQ
  have hx := B.1
  have hb := B.2.1
  have hl : lv_has ls 2 [(0, .ref z_o), (1, .int x1)] := hl
  unfold f_X8_back at h
  refine lv_iload_n (pc := 0) hx hb (tb_at tk_X8_back 0 rfl) rfl (lv_at hl 1 rfl) ?_
  refine lv_iconst (pc := 1) (v := 0) hx hb (tb_at tk_X8_back 1 rfl) (by decide) ?_
  refine lv_iconst (pc := 2) (v := 1) hx hb (tb_at tk_X8_back 2 rfl) (by decide) ?_
  refine k_call0 (pc := 3) B (k_runSi (rest := []) (host := "") B (c_X8_in l dC dI cI cZ cQ cW   x1 0 1 N _ res h) E0_st (fun _ _ _ => trivial) q_c_X8_in q_m_X8_72 q_t_X8_in q_n_X8 hd_X8_in ⟨rfl, rfl⟩ ⟨Nat.le_of_ble_eq_true rfl, Nat.le_of_ble_eq_true rfl⟩ hW [] rfl (by decide +kernel) rfl hl.1 rfl (Nat.le_of_ble_eq_true rfl) (tb_at tk_X8_back 3 rfl) ⟨Nat.zero_le _, Nat.zero_le _⟩) hW hS (fun r3 u H locs h hW hS => ?_)
  refine lv_if_ne (pc := 6) (tgt := 11) hx hb (tb_at tk_X8_back 4 rfl) (by decide) (fun cc => ?_) (fun cc => ?_)
  · have h := it_f cc h
    refine lv_aload_n (pc := 11) hx hb (tb_at tk_X8_back 7 rfl) rfl (lv_at hl 0 rfl) ?_
    refine k_get (pc := 12) (v := .ref z_isKept_a) (T := TX8) B inG8 hW 0 rfl rfl 8 (by decide) q_f_X8_28 rfl rfl (tb_at tk_X8_back 8 rfl) ?_
    refine lv_iload_n (pc := 15) hx hb (tb_at tk_X8_back 9 rfl) rfl (lv_at hl 1 rfl) ?_
    have ii := ivi_in (ck_l h)
    have h := ck_r h
    refine k_zald (pc := 16) B hW 1 1 rfl rfl ii (tb_at tk_X8_back 10 rfl) ?_
    refine lv_if_ne (pc := 17) (tgt := 23) hx hb (tb_at tk_X8_back 11 rfl) (by decide) (fun cc => ?_) (fun cc => ?_)
    · have h := it_f cc h
      refine lv_aload_n (pc := 23) hx hb (tb_at tk_X8_back 14 rfl) rfl (lv_at hl 0 rfl) ?_
      refine k_get (pc := 24) (v := .ref z_st_a) (T := TX8) B inG8 hW 0 rfl rfl 4 (by decide) q_f_X8_19 rfl rfl (tb_at tk_X8_back 15 rfl) ?_
      refine lv_iconst (pc := 27) (v := 0) hx hb (tb_at tk_X8_back 16 rfl) (by decide) ?_
      refine lv_aload_n (pc := 28) hx hb (tb_at tk_X8_back 17 rfl) rfl (lv_at hl 0 rfl) ?_
      refine k_get (pc := 29) (v := .ref z_images_a) (T := TX8) B inG8 hW 0 rfl rfl 7 (by decide) q_f_X8_25 rfl rfl (tb_at tk_X8_back 18 rfl) ?_
      refine lv_bipush (pc := 32) (v := 25) hx hb (tb_at tk_X8_back 19 rfl) (by decide) ?_
      refine lv_iload_n (pc := 34) hx hb (tb_at tk_X8_back 20 rfl) rfl (lv_at hl 1 rfl) ?_
      refine lv_imul (pc := 35) hx hb (tb_at tk_X8_back 21 rfl) ?_
      refine k_callv (pc := 36) B (k_runSv (rest := []) (host := "") B (c_X8_copy l dC dI cI cZ cQ cW z_images_a 50 z_st_a 25 z_images z_st 0 ((25 : Int32) * x1) N _ res h) E0_st (fun _ _ _ => trivial) q_c_X8_copy q_m_X8_141 q_t_X8_copy q_n_X8 hd_X8_copy ⟨rfl, rfl⟩ ⟨Nat.le_of_ble_eq_true rfl, Nat.le_of_ble_eq_true rfl⟩ hW [2, 3] rfl (by decide +kernel) rfl hl.1 rfl (Nat.le_of_ble_eq_true rfl) (tb_at tk_X8_back 22 rfl) ⟨Nat.zero_le _, Nat.zero_le _⟩) hW hS [2, 3] rfl [z_images_a, z_st_a] rfl (fun _ => rfl) [none, none, some 0, some 1] (by decide +kernel) (fun u => (w_X8_back cI cZ cQ cW z_o z_weight_a z_wants_a z_wantsMany_a z_st_a z_was_a z_images_a z_isKept_a z_told_a z_text_a z_saidWeight_a z_saidNights_a z_saidWants_a z_saidMany_a z_now_a z_gave_a z_at_a z_way_a z_bestWay_a z_made_a z_people z_known z_toldMany z_trace z_texted z_cursor z_start z_token z_number z_isWrong z_items z_saidPeople z_saidLaw z_ringed z_lumps z_isKept z_images u)) (fun _ => rfl) (fun u H locs h hW hS => ?_)
      obtain ⟨z_st_36, rfl⟩ : ∃ z9, z9 = u := ⟨_, rfl⟩
      have hW : PD (dC, dI) A (w_X8_back cI cZ cQ cW z_o z_weight_a z_wants_a z_wantsMany_a z_st_a z_was_a z_images_a z_isKept_a z_told_a z_text_a z_saidWeight_a z_saidNights_a z_saidWants_a z_saidMany_a z_now_a z_gave_a z_at_a z_way_a z_bestWay_a z_made_a z_people z_known z_toldMany z_trace z_texted z_cursor z_start z_token z_number z_isWrong z_items z_saidPeople z_saidLaw z_ringed z_lumps z_isKept z_images z_st_36) H := hW
      refine lv_aload_n (pc := 39) hx hb (tb_at tk_X8_back 23 rfl) rfl (lv_at hl 0 rfl) ?_
      refine lv_iconst (pc := 40) (v := 0) hx hb (tb_at tk_X8_back 24 rfl) (by decide) ?_
      refine k_put (pc := 41) (T := TX8) B inG8 tyX8 tyX8_ok nmX8 hW hS 0 rfl rfl 6 (by decide) q_f_X8_135 rfl rfl rfl rfl (Nat.le_of_ble_eq_true rfl) (tb_at tk_X8_back 25 rfl) (w_X8_back cI cZ cQ cW z_o z_weight_a z_wants_a z_wantsMany_a z_st_a z_was_a z_images_a z_isKept_a z_told_a z_text_a z_saidWeight_a z_saidNights_a z_saidWants_a z_saidMany_a z_now_a z_gave_a z_at_a z_way_a z_bestWay_a z_made_a z_people 0 z_toldMany z_trace z_texted z_cursor z_start z_token z_number z_isWrong z_items z_saidPeople z_saidLaw z_ringed z_lumps z_isKept z_images z_st_36) rfl (fun H locs hW hS => ?_)
      refine lv_aload_n (pc := 44) hx hb (tb_at tk_X8_back 26 rfl) rfl (lv_at hl 0 rfl) ?_
      refine k_get (pc := 45) (v := .ref z_st_a) (T := TX8) B inG8 hW 0 rfl rfl 4 (by decide) q_f_X8_19 rfl rfl (tb_at tk_X8_back 27 rfl) ?_
      refine lv_bipush (pc := 48) (v := 23) hx hb (tb_at tk_X8_back 28 rfl) (by decide) ?_
      have ii := ivi_in (ck_l h)
      have h := ck_r h
      refine k_iald (pc := 50) B hW 3 0 rfl rfl ii (tb_at tk_X8_back 29 rfl) ?_
      exact hQ (z_st_36 ((23 : Int32)).toNatClampNeg) (0, z_st_36) _ _ _ 51 rfl h hW hS (tb_at tk_X8_back 30 rfl)
    · have h := it_t cc h
      refine lv_bipush (pc := 20) (v := (-2)) hx hb (tb_at tk_X8_back 12 rfl) (by decide) ?_
      exact hQ (-2) (z_known, z_st) _ _ _ 22 rfl h hW hS (tb_at tk_X8_back 13 rfl)
  · have h := it_t cc h
    refine lv_iconst (pc := 9) (v := (-1)) hx hb (tb_at tk_X8_back 5 rfl) (by decide) ?_
    exact hQ (-1) (z_known, z_st) _ _ _ 10 rfl h hW hS (tb_at tk_X8_back 6 rfl)
def f_X8_count {ρ : Type} (N : Nat) (z_people : Int32) (z_toldMany : Int32) (z_texted : Int32) (x1 : Int32) (k : Int32 → Option ρ) : Option ρ := if x1 = 0 then (k z_people) else (if x1 = 1 then (k z_toldMany) else (if x1 = 2 then (k z_texted) else (k (-1))))
abbrev w_X8_count (cI cZ cQ cW : ClassId) (z_o : Nat) (z_weight_a : Nat) (z_wants_a : Nat) (z_wantsMany_a : Nat) (z_st_a : Nat) (z_was_a : Nat) (z_images_a : Nat) (z_isKept_a : Nat) (z_told_a : Nat) (z_text_a : Nat) (z_saidWeight_a : Nat) (z_saidNights_a : Nat) (z_saidWants_a : Nat) (z_saidMany_a : Nat) (z_now_a : Nat) (z_gave_a : Nat) (z_at_a : Nat) (z_way_a : Nat) (z_bestWay_a : Nat) (z_made_a : Nat) (z_people : Int32) (z_known : Int32) (z_toldMany : Int32) (z_trace : Int64) (z_texted : Int32) (z_cursor : Int32) (z_start : Int32) (z_token : Int32) (z_number : Int32) (z_isWrong : Int32) (z_items : Int32) (z_saidPeople : Int32) (z_saidLaw : Int32) (z_ringed : Int32) (z_lumps : Int32) : va_W := [(z_o, .inr (8, [.int z_people, .ref z_weight_a, .ref z_wants_a, .ref z_wantsMany_a, .ref z_st_a, .ref z_was_a, .int z_known, .ref z_images_a, .ref z_isKept_a, .int z_toldMany, .ref z_told_a, .long z_trace, .ref z_text_a, .int z_texted, .int z_cursor, .int z_start, .int z_token, .int z_number, .int z_isWrong, .int z_items, .int z_saidPeople, .ref z_saidWeight_a, .ref z_saidNights_a, .ref z_saidWants_a, .ref z_saidMany_a, .int z_saidLaw, .ref z_now_a, .ref z_gave_a, .ref z_at_a, .int z_ringed, .int z_lumps, .ref z_way_a, .ref z_bestWay_a, .ref z_made_a]))]
abbrev rm_X8_count : Room := { frames := 0, cells := 0, slots := 0, locals := 0 }
set_option maxHeartbeats 4000000 in
set_option maxRecDepth 100000 in
theorem c_X8_count (l : Launch) (dC : Nat → ClassId) (dI : Nat → Nat → Nat) (cI cZ cQ cW : ClassId) (z_o : Nat) (z_weight_a : Nat) (z_wants_a : Nat) (z_wantsMany_a : Nat) (z_st_a : Nat) (z_was_a : Nat) (z_images_a : Nat) (z_isKept_a : Nat) (z_told_a : Nat) (z_text_a : Nat) (z_saidWeight_a : Nat) (z_saidNights_a : Nat) (z_saidWants_a : Nat) (z_saidMany_a : Nat) (z_now_a : Nat) (z_gave_a : Nat) (z_at_a : Nat) (z_way_a : Nat) (z_bestWay_a : Nat) (z_made_a : Nat) (z_people : Int32) (z_known : Int32) (z_toldMany : Int32) (z_trace : Int64) (z_texted : Int32) (z_cursor : Int32) (z_start : Int32) (z_token : Int32) (z_number : Int32) (z_isWrong : Int32) (z_items : Int32) (z_saidPeople : Int32) (z_saidLaw : Int32) (z_ringed : Int32) (z_lumps : Int32) (x1 : Int32) {ρ : Type} (N : Nat) (k : Int32 → Option ρ) (res : ρ) (h : f_X8_count N z_people z_toldMany z_texted x1 k = some res) : Ci l yX8_count (WS yX8_count cX8_count 2 (some .int)) rm_X8_count (dC, dI) (tysG cI cZ cQ cW) E0 [.ref z_o, .int x1] (w_X8_count cI cZ cQ cW z_o z_weight_a z_wants_a z_wantsMany_a z_st_a z_was_a z_images_a z_isKept_a z_told_a z_text_a z_saidWeight_a z_saidNights_a z_saidWants_a z_saidMany_a z_now_a z_gave_a z_at_a z_way_a z_bestWay_a z_made_a z_people z_known z_toldMany z_trace z_texted z_cursor z_start z_token z_number z_isWrong z_items z_saidPeople z_saidLaw z_ringed z_lumps) (fun (_ : Unit) => (w_X8_count cI cZ cQ cW z_o z_weight_a z_wants_a z_wantsMany_a z_st_a z_was_a z_images_a z_isKept_a z_told_a z_text_a z_saidWeight_a z_saidNights_a z_saidWants_a z_saidMany_a z_now_a z_gave_a z_at_a z_way_a z_bestWay_a z_made_a z_people z_known z_toldMany z_trace z_texted z_cursor z_start z_token z_number z_isWrong z_items z_saidPeople z_saidLaw z_ringed z_lumps)) (fun r _ => k r = some res) := by
  refine Ci.of (cc := cX8_count) (n := 2) (by decide +kernel) (Nat.le_of_ble_eq_true rfl) ?_
  intro p e s m args below meth c A ls Q B hW hE hS hl hQ
  have hx := B.1
  have hb := B.2.1
  have hl : lv_has ls 2 [(0, .ref z_o), (1, .int x1)] := hl
  unfold f_X8_count at h
  refine lv_iload_n (pc := 0) hx hb (tb_at tk_X8_count 0 rfl) rfl (lv_at hl 1 rfl) ?_
  by_cases cs0 : x1 = 0
  · have h := it_t cs0 h
    refine lv_tableIn (pc := 1) (tgt := 28) hx hb (tb_at tk_X8_count 1 rfl) (by rw [cs0]; decide) (by rw [cs0]; decide) (off := 27) (by rw [cs0]; rfl) (by decide) ?_
    refine lv_aload_n (pc := 28) hx hb (tb_at tk_X8_count 2 rfl) rfl (lv_at hl 0 rfl) ?_
    refine k_get (pc := 29) (v := .int z_people) (T := TX8) B inG8 hW 0 rfl rfl 0 (by decide) q_f_X8_68 rfl rfl (tb_at tk_X8_count 3 rfl) ?_
    exact hQ z_people () _ _ _ 32 rfl h hW hS (tb_at tk_X8_count 4 rfl)
  · have h := it_f cs0 h
    by_cases cs1 : x1 = 1
    · have h := it_t cs1 h
      refine lv_tableIn (pc := 1) (tgt := 33) hx hb (tb_at tk_X8_count 1 rfl) (by rw [cs1]; decide) (by rw [cs1]; decide) (off := 32) (by rw [cs1]; rfl) (by decide) ?_
      refine lv_aload_n (pc := 33) hx hb (tb_at tk_X8_count 5 rfl) rfl (lv_at hl 0 rfl) ?_
      refine k_get (pc := 34) (v := .int z_toldMany) (T := TX8) B inG8 hW 0 rfl rfl 9 (by decide) q_f_X8_138 rfl rfl (tb_at tk_X8_count 6 rfl) ?_
      exact hQ z_toldMany () _ _ _ 37 rfl h hW hS (tb_at tk_X8_count 7 rfl)
    · have h := it_f cs1 h
      by_cases cs2 : x1 = 2
      · have h := it_t cs2 h
        refine lv_tableIn (pc := 1) (tgt := 38) hx hb (tb_at tk_X8_count 1 rfl) (by rw [cs2]; decide) (by rw [cs2]; decide) (off := 37) (by rw [cs2]; rfl) (by decide) ?_
        refine lv_aload_n (pc := 38) hx hb (tb_at tk_X8_count 8 rfl) rfl (lv_at hl 0 rfl) ?_
        refine k_get (pc := 39) (v := .int z_texted) (T := TX8) B inG8 hW 0 rfl rfl 13 (by decide) q_f_X8_76 rfl rfl (tb_at tk_X8_count 9 rfl) ?_
        exact hQ z_texted () _ _ _ 42 rfl h hW hS (tb_at tk_X8_count 10 rfl)
      · have h := it_f cs2 h
        refine lv_tableOut (pc := 1) (tgt := 43) hx hb (tb_at tk_X8_count 1 rfl) (ts_out0_2 cs0 cs1 cs2) (by decide) ?_
        refine lv_iconst (pc := 43) (v := (-1)) hx hb (tb_at tk_X8_count 11 rfl) (by decide) ?_
        exact hQ (-1) () _ _ _ 44 rfl h hW hS (tb_at tk_X8_count 12 rfl)
def f_X8_trace {ρ : Type} (N : Nat) (z_trace : Int64) (k : Int64 → Option ρ) : Option ρ := k z_trace
abbrev w_X8_trace (cI cZ cQ cW : ClassId) (z_o : Nat) (z_weight_a : Nat) (z_wants_a : Nat) (z_wantsMany_a : Nat) (z_st_a : Nat) (z_was_a : Nat) (z_images_a : Nat) (z_isKept_a : Nat) (z_told_a : Nat) (z_text_a : Nat) (z_saidWeight_a : Nat) (z_saidNights_a : Nat) (z_saidWants_a : Nat) (z_saidMany_a : Nat) (z_now_a : Nat) (z_gave_a : Nat) (z_at_a : Nat) (z_way_a : Nat) (z_bestWay_a : Nat) (z_made_a : Nat) (z_people : Int32) (z_known : Int32) (z_toldMany : Int32) (z_trace : Int64) (z_texted : Int32) (z_cursor : Int32) (z_start : Int32) (z_token : Int32) (z_number : Int32) (z_isWrong : Int32) (z_items : Int32) (z_saidPeople : Int32) (z_saidLaw : Int32) (z_ringed : Int32) (z_lumps : Int32) : va_W := [(z_o, .inr (8, [.int z_people, .ref z_weight_a, .ref z_wants_a, .ref z_wantsMany_a, .ref z_st_a, .ref z_was_a, .int z_known, .ref z_images_a, .ref z_isKept_a, .int z_toldMany, .ref z_told_a, .long z_trace, .ref z_text_a, .int z_texted, .int z_cursor, .int z_start, .int z_token, .int z_number, .int z_isWrong, .int z_items, .int z_saidPeople, .ref z_saidWeight_a, .ref z_saidNights_a, .ref z_saidWants_a, .ref z_saidMany_a, .int z_saidLaw, .ref z_now_a, .ref z_gave_a, .ref z_at_a, .int z_ringed, .int z_lumps, .ref z_way_a, .ref z_bestWay_a, .ref z_made_a]))]
abbrev rm_X8_trace : Room := { frames := 0, cells := 0, slots := 0, locals := 0 }
set_option maxHeartbeats 4000000 in
set_option maxRecDepth 100000 in
theorem c_X8_trace (l : Launch) (dC : Nat → ClassId) (dI : Nat → Nat → Nat) (cI cZ cQ cW : ClassId) (z_o : Nat) (z_weight_a : Nat) (z_wants_a : Nat) (z_wantsMany_a : Nat) (z_st_a : Nat) (z_was_a : Nat) (z_images_a : Nat) (z_isKept_a : Nat) (z_told_a : Nat) (z_text_a : Nat) (z_saidWeight_a : Nat) (z_saidNights_a : Nat) (z_saidWants_a : Nat) (z_saidMany_a : Nat) (z_now_a : Nat) (z_gave_a : Nat) (z_at_a : Nat) (z_way_a : Nat) (z_bestWay_a : Nat) (z_made_a : Nat) (z_people : Int32) (z_known : Int32) (z_toldMany : Int32) (z_trace : Int64) (z_texted : Int32) (z_cursor : Int32) (z_start : Int32) (z_token : Int32) (z_number : Int32) (z_isWrong : Int32) (z_items : Int32) (z_saidPeople : Int32) (z_saidLaw : Int32) (z_ringed : Int32) (z_lumps : Int32) {ρ : Type} (N : Nat) (k : Int64 → Option ρ) (res : ρ) (h : f_X8_trace N z_trace k = some res) : Cl l yX8_trace (WS yX8_trace cX8_trace 1 (some .long)) rm_X8_trace (dC, dI) (tysG cI cZ cQ cW) E0 [.ref z_o] (w_X8_trace cI cZ cQ cW z_o z_weight_a z_wants_a z_wantsMany_a z_st_a z_was_a z_images_a z_isKept_a z_told_a z_text_a z_saidWeight_a z_saidNights_a z_saidWants_a z_saidMany_a z_now_a z_gave_a z_at_a z_way_a z_bestWay_a z_made_a z_people z_known z_toldMany z_trace z_texted z_cursor z_start z_token z_number z_isWrong z_items z_saidPeople z_saidLaw z_ringed z_lumps) (fun (_ : Unit) => (w_X8_trace cI cZ cQ cW z_o z_weight_a z_wants_a z_wantsMany_a z_st_a z_was_a z_images_a z_isKept_a z_told_a z_text_a z_saidWeight_a z_saidNights_a z_saidWants_a z_saidMany_a z_now_a z_gave_a z_at_a z_way_a z_bestWay_a z_made_a z_people z_known z_toldMany z_trace z_texted z_cursor z_start z_token z_number z_isWrong z_items z_saidPeople z_saidLaw z_ringed z_lumps)) (fun r _ => k r = some res) := by
  refine Cl.of (cc := cX8_trace) (n := 1) (by decide +kernel) (Nat.le_of_ble_eq_true rfl) ?_
  intro p e s m args below meth c A ls Q B hW hE hS hl hQ
  have hx := B.1
  have hb := B.2.1
  have hl : lv_has ls 1 [(0, .ref z_o)] := hl
  unfold f_X8_trace at h
  refine lv_aload_n (pc := 0) hx hb (tb_at tk_X8_trace 0 rfl) rfl (lv_at hl 0 rfl) ?_
  refine k_get (pc := 1) (v := .long z_trace) (T := TX8) B inG8 hW 0 rfl rfl 11 (by decide) q_f_X8_213 rfl rfl (tb_at tk_X8_trace 1 rfl) ?_
  exact hQ z_trace () _ _ _ 4 h hW hS (tb_at tk_X8_trace 2 rfl)
