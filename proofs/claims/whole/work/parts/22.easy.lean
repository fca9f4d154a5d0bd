/-! 22.easy: type, clear, count, trace, forget, tells, wants, bit -/
theorem co_type {N : Nat} {len : Int32} {letters : Nat → Int32} {texted : Int32} {text : Nat → Int32} (a1 : Int32) (h : Rt len letters texted text) : ∃ (r len' : Int32) (letters' : Nat → Int32) (texted' : Int32) (text' : Nat → Int32), f_X7_type N len letters a1 (fun r q0 q1 => some (r, q0, q1)) = some (r, len', letters') ∧ f_X8_type N texted text a1 (fun r q0 q1 => some (r, q0, q1)) = some (r, texted', text') ∧ Rt len' letters' texted' text' := by
  have h' := h
  obtain ⟨L, hL, rfl, rfl, hl⟩ := h
  unfold f_X7_type f_X8_type f_X4_add
  rw [in_w]
  rcases win a1 (b := 255) (n := 255) rfl (by decide) with hw | ⟨c, hc, e, w1, w2⟩
  · rw [within_no N hw, within_no N hw]
    exact ⟨_, _, _, _, _, rfl, rfl, h'⟩
  · rw [within_yes N w1 w2, within_yes N w1 w2, if10, if10]
    rcases Nat.lt_or_ge L 150 with q | q
    · rw [if_pos (show nI L < (150 : Int32) from nI_lt q (by decide)), ck_i q (by decide), if_neg (show ¬ nI L = (150 : Int32) from fun e9 => absurd (inj_n (b := 150) (by omega) (by decide) e9) (by omega)), ck_i q (by decide)]
      dsimp only
      rw [if10, cl (by omega)]
      refine ⟨_, _, _, _, _, rfl, rfl, L + 1, by omega, nI_1 L, nI_1 L, fun i hi => ?_⟩
      by_cases e9 : i = L
      · subst e9
        rw [upd_s, upd_s]
        exact ⟨rfl, c, hc, e⟩
      · rw [upd_n e9, upd_n e9]
        exact hl i (by omega)
    · have e9 : L = 150 := by omega
      subst e9
      rw [if_neg (show ¬ nI 150 < (150 : Int32) by decide), if_pos (show nI 150 = (150 : Int32) from rfl)]
      dsimp only
      rw [if00]
      exact ⟨_, _, _, _, _, rfl, rfl, h'⟩
set_option maxHeartbeats 2000000 in
theorem st_type {N : Nat} (hN : 200000 ≤ N) : St_type N Rel := by
  intro x_told x_marks xs_length xs_place xs_tokenPlace xs_token xs_value xs_lawTold xsd_size xsd_law xsd_weight xsd_nights xsd_wanted xsd_wantCount xsd_wantBits xs_letters xp_size xp_law xp_weight xp_nights xp_wanted xp_wantCount xp_wantBits xh_bitCount xh_given xh_made xh_gone xh_law xh_has xh_left xh_bits xy_next xy_known xyr_has xyr_left xyr_bits xyr_bitCount xyr_given xyr_made xyr_gone xyr_law x_kept xk_left xk_lumpCount xk_ringed xk_gave xk_giver xk_aims xk_got xk_lumps xg_hours xg_best xu_sums xu_hours x_toldSet x_toldWho x_toldHour xm_has xm_left xm_bits xm_bitCount xm_given xm_made xm_gone xm_law m_people m_known m_toldMany m_trace m_texted m_cursor m_start m_token m_number m_isWrong m_items m_saidPeople m_saidLaw m_ringed m_lumps m_weight m_wants m_wantsMany m_st m_was m_images m_isKept m_told m_text m_saidWeight m_saidNights m_saidWants m_saidMany m_now m_gave m_at m_way m_bestWay m_made a1 hR
  obtain ⟨P, WL, WT, ht, hp, ha, hy, hi, ho, hm, hg⟩ := hR
  obtain ⟨r, len', letters', texted', text', e1, e2, ht'⟩ := co_type (N := N) a1 ht
  exact ⟨r, len', letters', texted', text', e1, e2, P, WL, WT, ht', hp, ha, hy, hi, ho, hm, hg⟩
set_option maxHeartbeats 2000000 in
theorem st_clear {N : Nat} (hN : 200000 ≤ N) : St_clear N Rel := by
  intro x_told x_marks xs_length xs_place xs_tokenPlace xs_token xs_value xs_lawTold xsd_size xsd_law xsd_weight xsd_nights xsd_wanted xsd_wantCount xsd_wantBits xs_letters xp_size xp_law xp_weight xp_nights xp_wanted xp_wantCount xp_wantBits xh_bitCount xh_given xh_made xh_gone xh_law xh_has xh_left xh_bits xy_next xy_known xyr_has xyr_left xyr_bits xyr_bitCount xyr_given xyr_made xyr_gone xyr_law x_kept xk_left xk_lumpCount xk_ringed xk_gave xk_giver xk_aims xk_got xk_lumps xg_hours xg_best xu_sums xu_hours x_toldSet x_toldWho x_toldHour xm_has xm_left xm_bits xm_bitCount xm_given xm_made xm_gone xm_law m_people m_known m_toldMany m_trace m_texted m_cursor m_start m_token m_number m_isWrong m_items m_saidPeople m_saidLaw m_ringed m_lumps m_weight m_wants m_wantsMany m_st m_was m_images m_isKept m_told m_text m_saidWeight m_saidNights m_saidWants m_saidMany m_now m_gave m_at m_way m_bestWay m_made hR
  obtain ⟨P, WL, WT, ht, hp, ha, hy, hi, ho, hm, hg⟩ := hR
  obtain ⟨L, hL, rfl, rfl, hl⟩ := ht
  exact ⟨_, _, _, rfl, rfl, P, WL, WT, ⟨0, by decide, rfl, rfl, fun i h => absurd h (by omega)⟩, hp, ha, hy, hi, ho, hm, hg⟩
set_option maxHeartbeats 2000000 in
theorem st_trace {N : Nat} (hN : 200000 ≤ N) : St_trace N Rel := by
  intro x_told x_marks xs_length xs_place xs_tokenPlace xs_token xs_value xs_lawTold xsd_size xsd_law xsd_weight xsd_nights xsd_wanted xsd_wantCount xsd_wantBits xs_letters xp_size xp_law xp_weight xp_nights xp_wanted xp_wantCount xp_wantBits xh_bitCount xh_given xh_made xh_gone xh_law xh_has xh_left xh_bits xy_next xy_known xyr_has xyr_left xyr_bits xyr_bitCount xyr_given xyr_made xyr_gone xyr_law x_kept xk_left xk_lumpCount xk_ringed xk_gave xk_giver xk_aims xk_got xk_lumps xg_hours xg_best xu_sums xu_hours x_toldSet x_toldWho x_toldHour xm_has xm_left xm_bits xm_bitCount xm_given xm_made xm_gone xm_law m_people m_known m_toldMany m_trace m_texted m_cursor m_start m_token m_number m_isWrong m_items m_saidPeople m_saidLaw m_ringed m_lumps m_weight m_wants m_wantsMany m_st m_was m_images m_isKept m_told m_text m_saidWeight m_saidNights m_saidWants m_saidMany m_now m_gave m_at m_way m_bestWay m_made hR
  obtain ⟨P, WL, WT, ht, hp, ha, hy, hi, ho, hm, hg⟩ := hR
  exact ⟨_, rfl, by rw [show m_trace = x_marks from hm.symm]; rfl, P, WL, WT, ht, hp, ha, hy, hi, ho, hm, hg⟩
set_option maxHeartbeats 2000000 in
theorem st_forget {N : Nat} (hN : 200000 ≤ N) : St_forget N Rel := by
  intro x_told x_marks xs_length xs_place xs_tokenPlace xs_token xs_value xs_lawTold xsd_size xsd_law xsd_weight xsd_nights xsd_wanted xsd_wantCount xsd_wantBits xs_letters xp_size xp_law xp_weight xp_nights xp_wanted xp_wantCount xp_wantBits xh_bitCount xh_given xh_made xh_gone xh_law xh_has xh_left xh_bits xy_next xy_known xyr_has xyr_left xyr_bits xyr_bitCount xyr_given xyr_made xyr_gone xyr_law x_kept xk_left xk_lumpCount xk_ringed xk_gave xk_giver xk_aims xk_got xk_lumps xg_hours xg_best xu_sums xu_hours x_toldSet x_toldWho x_toldHour xm_has xm_left xm_bits xm_bitCount xm_given xm_made xm_gone xm_law m_people m_known m_toldMany m_trace m_texted m_cursor m_start m_token m_number m_isWrong m_items m_saidPeople m_saidLaw m_ringed m_lumps m_weight m_wants m_wantsMany m_st m_was m_images m_isKept m_told m_text m_saidWeight m_saidNights m_saidWants m_saidMany m_now m_gave m_at m_way m_bestWay m_made hR
  obtain ⟨P, WL, WT, ht, hp, ha, hy, hi, ho, hm, hg⟩ := hR
  have ho' := ho
  obtain ⟨t, h1, rfl, rfl, h2⟩ := ho
  exact ⟨_, _, _, rfl, rfl, P, WL, WT, ht, hp, ha, hy, hi, ⟨0, by decide, rfl, rfl, fun j h => absurd h (by omega)⟩, hm, hg⟩
set_option maxHeartbeats 2000000 in
theorem st_count {N : Nat} (hN : 200000 ≤ N) : St_count N Rel := by
  intro x_told x_marks xs_length xs_place xs_tokenPlace xs_token xs_value xs_lawTold xsd_size xsd_law xsd_weight xsd_nights xsd_wanted xsd_wantCount xsd_wantBits xs_letters xp_size xp_law xp_weight xp_nights xp_wanted xp_wantCount xp_wantBits xh_bitCount xh_given xh_made xh_gone xh_law xh_has xh_left xh_bits xy_next xy_known xyr_has xyr_left xyr_bits xyr_bitCount xyr_given xyr_made xyr_gone xyr_law x_kept xk_left xk_lumpCount xk_ringed xk_gave xk_giver xk_aims xk_got xk_lumps xg_hours xg_best xu_sums xu_hours x_toldSet x_toldWho x_toldHour xm_has xm_left xm_bits xm_bitCount xm_given xm_made xm_gone xm_law m_people m_known m_toldMany m_trace m_texted m_cursor m_start m_token m_number m_isWrong m_items m_saidPeople m_saidLaw m_ringed m_lumps m_weight m_wants m_wantsMany m_st m_was m_images m_isKept m_told m_text m_saidWeight m_saidNights m_saidWants m_saidMany m_now m_gave m_at m_way m_bestWay m_made a1 hR
  obtain ⟨P, WL, WT, ht, hp, ha, hy, hi, ho, hm, hg⟩ := hR
  have hp' := hp
  have ho' := ho
  have ht' := ht
  obtain ⟨hP, rfl, rfl, -⟩ := hp
  obtain ⟨t, h1, rfl, rfl, h2⟩ := ho
  obtain ⟨L, hL, rfl, rfl, hl⟩ := ht
  unfold f_X7_count f_X8_count
  by_cases c0 : a1 = 0
  · simp only [if_pos c0]; exact ⟨_, rfl, rfl, P, WL, WT, ht', hp', ha, hy, hi, ho', hm, hg⟩
  simp only [if_neg c0]
  by_cases c1 : a1 = 1
  · simp only [if_pos c1]; exact ⟨_, rfl, rfl, P, WL, WT, ht', hp', ha, hy, hi, ho', hm, hg⟩
  simp only [if_neg c1]
  by_cases c2 : a1 = 2
  · simp only [if_pos c2]; exact ⟨_, rfl, rfl, P, WL, WT, ht', hp', ha, hy, hi, ho', hm, hg⟩
  simp only [if_neg c2]
  exact ⟨_, rfl, rfl, P, WL, WT, ht', hp', ha, hy, hi, ho', hm, hg⟩
set_option maxHeartbeats 2000000 in
theorem st_wants {N : Nat} (hN : 200000 ≤ N) : St_wants N Rel := by
  intro x_told x_marks xs_length xs_place xs_tokenPlace xs_token xs_value xs_lawTold xsd_size xsd_law xsd_weight xsd_nights xsd_wanted xsd_wantCount xsd_wantBits xs_letters xp_size xp_law xp_weight xp_nights xp_wanted xp_wantCount xp_wantBits xh_bitCount xh_given xh_made xh_gone xh_law xh_has xh_left xh_bits xy_next xy_known xyr_has xyr_left xyr_bits xyr_bitCount xyr_given xyr_made xyr_gone xyr_law x_kept xk_left xk_lumpCount xk_ringed xk_gave xk_giver xk_aims xk_got xk_lumps xg_hours xg_best xu_sums xu_hours x_toldSet x_toldWho x_toldHour xm_has xm_left xm_bits xm_bitCount xm_given xm_made xm_gone xm_law m_people m_known m_toldMany m_trace m_texted m_cursor m_start m_token m_number m_isWrong m_items m_saidPeople m_saidLaw m_ringed m_lumps m_weight m_wants m_wantsMany m_st m_was m_images m_isKept m_told m_text m_saidWeight m_saidNights m_saidWants m_saidMany m_now m_gave m_at m_way m_bestWay m_made a1 a2 hR
  obtain ⟨P, WL, WT, ht, hp, ha, hy, hi, ho, hm, hg⟩ := hR
  have hp' := hp
  obtain ⟨hP, rfl, rfl, hw, hl⟩ := hp
  unfold f_X7_wants f_X8_wants
  rcases pk_ix a1 (n := P) (by omega) with h | h | ⟨p, hp1, rfl⟩
  · rw [knows_no N (Or.inl h), isPerson_no N hP (Or.inl h), if00, if00]; exact ⟨_, rfl, rfl, P, WL, WT, ht, hp', ha, hy, hi, ho, hm, hg⟩
  · rw [knows_no N (Or.inr h), isPerson_no N hP (Or.inr h), if00, if00]; exact ⟨_, rfl, rfl, P, WL, WT, ht, hp', ha, hy, hi, ho, hm, hg⟩
  rw [knows_yes N (by omega) hp1, isPerson_yes N hP hp1, if10, if10, in_w]
  rcases win a2 (b := 3) (n := 3) rfl (by decide) with hw | ⟨k, hk, rfl, w1, w2⟩
  · rw [within_no N hw, within_no N hw, if00, if00]; exact ⟨_, rfl, rfl, P, WL, WT, ht, hp', ha, hy, hi, ho, hm, hg⟩
  rw [within_yes N w1 w2, within_yes N w1 w2, if10, if10]
  simp only [ivi_n (show p < 6 by omega) (by decide), ck_t, cl (show p < 2 ^ 31 by omega)]
  obtain ⟨l1, l2, l3, l4, l5, l6, l7⟩ := hl p hp1
  rw [l4, l5]
  rcases Nat.lt_or_ge k (WL p).length with q | q
  · rw [if_neg (nI_ge q (by omega)), if_neg (nI_ge q (by omega)), ck_i (by omega) (by decide), cl (by omega), (l7 k q).1]
    rw [show (4 : Int32) * nI p + nI k = nI (4 * p + k) by rw [show (4 : Int32) = nI 4 from rfl, pk_mul, nI_add], ck_i (by omega) (by decide), cl (by omega), (l7 k q).2]
    exact ⟨_, rfl, rfl, P, WL, WT, ht, hp', ha, hy, hi, ho, hm, hg⟩
  · simp only [if_pos (nI_le q (show k < 2 ^ 31 by omega))]
    exact ⟨_, rfl, rfl, P, WL, WT, ht, hp', ha, hy, hi, ho, hm, hg⟩
set_option maxHeartbeats 2000000 in
theorem st_bit {N : Nat} (hN : 200000 ≤ N) : St_bit N Rel := by
  intro x_told x_marks xs_length xs_place xs_tokenPlace xs_token xs_value xs_lawTold xsd_size xsd_law xsd_weight xsd_nights xsd_wanted xsd_wantCount xsd_wantBits xs_letters xp_size xp_law xp_weight xp_nights xp_wanted xp_wantCount xp_wantBits xh_bitCount xh_given xh_made xh_gone xh_law xh_has xh_left xh_bits xy_next xy_known xyr_has xyr_left xyr_bits xyr_bitCount xyr_given xyr_made xyr_gone xyr_law x_kept xk_left xk_lumpCount xk_ringed xk_gave xk_giver xk_aims xk_got xk_lumps xg_hours xg_best xu_sums xu_hours x_toldSet x_toldWho x_toldHour xm_has xm_left xm_bits xm_bitCount xm_given xm_made xm_gone xm_law m_people m_known m_toldMany m_trace m_texted m_cursor m_start m_token m_number m_isWrong m_items m_saidPeople m_saidLaw m_ringed m_lumps m_weight m_wants m_wantsMany m_st m_was m_images m_isKept m_told m_text m_saidWeight m_saidNights m_saidWants m_saidMany m_now m_gave m_at m_way m_bestWay m_made a1 hR
  obtain ⟨P, WL, WT, ht, hp, ha, hy, hi, ho, hm, hg⟩ := hR
  have ha' := ha
  obtain ⟨hs, lf, bt, g, c, n, w, b1, b2, b3, b4, b5, ⟨c1, rfl, c3, c4⟩, b7, b8, b9⟩ := ha
  unfold f_X7_bit f_X8_bit
  rw [in_w]
  rcases win a1 (b := 7) (n := 7) rfl (by decide) with hw | ⟨k, hk, rfl, w1, w2⟩
  · rw [within_no N hw, within_no N hw, if00, if00]; exact ⟨_, rfl, rfl, P, WL, WT, ht, hp, ha', hy, hi, ho, hm, hg⟩
  rw [within_yes N w1 w2, within_yes N w1 w2, if10, if10]
  rw [show ck (ivi (13 : Int32) 25) = id from rfl, id, show ((13 : Int32)).toNatClampNeg = 13 from by decide, c3]
  rcases Nat.lt_or_ge k c with q | q
  · rw [if_neg (nI_ge q (by omega)), if_neg (nI_ge q (by omega)), ck_i (by omega) (by decide), cl (by omega), (c4 k q).2.2.1]
    rw [show (14 : Int32) + nI k = nI (14 + k) from nI_add 14 k, ck_i (by omega) (by decide), cl (by omega), (c4 k q).2.2.2]
    exact ⟨_, rfl, rfl, P, WL, WT, ht, hp, ha', hy, hi, ho, hm, hg⟩
  · simp only [if_pos (nI_le q (show k < 2 ^ 31 by omega))]
    exact ⟨_, rfl, rfl, P, WL, WT, ht, hp, ha', hy, hi, ho, hm, hg⟩

