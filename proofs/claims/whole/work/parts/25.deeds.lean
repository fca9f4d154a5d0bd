/-! 25.deeds: gives, takes, laws, undo, keep, back -/
theorem two_lt {P : Nat} (hP : P ≤ 6) {g : Nat} (hg : g < 2 ^ P) : g < 64 := Nat.lt_of_lt_of_le hg (pow6 hP)
theorem lt_two {P g : Nat} (hP : P ≤ 6) (h : ∀ i, P ≤ i → g.testBit i = false) : g < 2 ^ P := Nat.lt_pow_two_of_testBit g (fun i hi => h i hi)
theorem bit_out {P g i : Nat} (hg : g < 2 ^ P) (h : P ≤ i) : g.testBit i = false := Nat.testBit_lt_two_pow (Nat.lt_of_lt_of_le hg (Nat.pow_le_pow_right (by decide) h))
theorem or_bit {P g i : Nat} (hP : P ≤ 6) (hg : g < 2 ^ P) (hi : i < P) : g ||| 2 ^ i < 2 ^ P := lt_two hP (fun j hj => by
  rw [Nat.testBit_or, bit_out hg hj, Nat.testBit_two_pow]
  simp
  omega)
theorem c12 : ((12 : Int32)).toNatClampNeg = 12 := by decide
theorem c13 : ((13 : Int32)).toNatClampNeg = 13 := by decide
theorem c22 : ((22 : Int32)).toNatClampNeg = 22 := by decide
theorem c23 : ((23 : Int32)).toNatClampNeg = 23 := by decide
theorem c24 : ((24 : Int32)).toNatClampNeg = 24 := by decide
theorem i12 : ivi (12 : Int32) 25 = true := by decide
theorem i13 : ivi (13 : Int32) 25 = true := by decide
theorem i22 : ivi (22 : Int32) 25 = true := by decide
theorem i23 : ivi (23 : Int32) 25 = true := by decide
theorem i24 : ivi (24 : Int32) 25 = true := by decide
/-- the silk is another one -/
theorem Rb_given {P : Nat} {hs lf bt : Nat → Nat} {g c n w : Nat} {has left bits st : Nat → Int32} {bc gv md gn lw : Int32} (h : Rb P hs lf bt g c n w has left bits bc gv md gn lw st) (hP : P ≤ 6) {g' : Nat} (h1 : g' < 2 ^ P) (h2 : ∀ p, p < P → g'.testBit p = true → hs p ≠ 6 ∧ 0 < lf p) : Ra P has left bits bc (nI g') md gn lw (upd st 12 (nI g')) := by
  obtain ⟨b1, b2, b3, b4, ⟨g1, g2, g3, g4⟩, ⟨c1, c2, c3, c4⟩, b7, ⟨n1, n2, n3⟩, ⟨w1, w2, w3⟩⟩ := h
  refine ⟨hs, lf, bt, g', c, n, w, fun p hp => ?_, b2, b3, fun p hp => ?_, ⟨h1, rfl, upd_s _ _ _, h2⟩, ⟨c1, c2, ?_, fun k hk => ?_⟩, ?_, ⟨n1, n2, ?_⟩, ⟨w1, w2, ?_⟩⟩
  · rw [upd_n (by omega)]; exact b1 p hp
  · rw [upd_n (by omega)]; exact b4 p hp
  · rw [upd_n (by omega)]; exact c3
  · rw [upd_n (by omega)]; exact c4 k hk
  · rw [upd_n (by omega)]; exact b7
  · rw [upd_n (by omega)]; exact n3
  · rw [upd_n (by omega)]; exact w3
theorem Rb_law {P : Nat} {hs lf bt : Nat → Nat} {g c n w : Nat} {has left bits st : Nat → Int32} {bc gv md gn lw : Int32} (h : Rb P hs lf bt g c n w has left bits bc gv md gn lw st) (hP : P ≤ 6) {w' : Nat} (h1 : w' ≤ 2) : Ra P has left bits bc gv md gn (nI w') (upd st 24 (nI w')) := by
  obtain ⟨b1, b2, b3, b4, ⟨g1, g2, g3, g4⟩, ⟨c1, c2, c3, c4⟩, b7, ⟨n1, n2, n3⟩, ⟨w1, w2, w3⟩⟩ := h
  refine ⟨hs, lf, bt, g, c, n, w', fun p hp => ?_, b2, b3, fun p hp => ?_, ⟨g1, g2, ?_, g4⟩, ⟨c1, c2, ?_, fun k hk => ?_⟩, ?_, ⟨n1, n2, ?_⟩, ⟨h1, rfl, upd_s _ _ _⟩⟩
  · rw [upd_n (by omega)]; exact b1 p hp
  · rw [upd_n (by omega)]; exact b4 p hp
  · rw [upd_n (by omega)]; exact g3
  · rw [upd_n (by omega)]; exact c3
  · rw [upd_n (by omega)]; exact c4 k hk
  · rw [upd_n (by omega)]; exact b7
  · rw [upd_n (by omega)]; exact n3
set_option maxHeartbeats 2000000 in
theorem st_gives {N : Nat} (hN : 200000 ≤ N) : St_gives N Rel := by
  intro x_told x_marks xs_length xs_place xs_tokenPlace xs_token xs_value xs_lawTold xsd_size xsd_law xsd_weight xsd_nights xsd_wanted xsd_wantCount xsd_wantBits xs_letters xp_size xp_law xp_weight xp_nights xp_wanted xp_wantCount xp_wantBits xh_bitCount xh_given xh_made xh_gone xh_law xh_has xh_left xh_bits xy_next xy_known xyr_has xyr_left xyr_bits xyr_bitCount xyr_given xyr_made xyr_gone xyr_law x_kept xk_left xk_lumpCount xk_ringed xk_gave xk_giver xk_aims xk_got xk_lumps xg_hours xg_best xu_sums xu_hours x_toldSet x_toldWho x_toldHour xm_has xm_left xm_bits xm_bitCount xm_given xm_made xm_gone xm_law m_people m_known m_toldMany m_trace m_texted m_cursor m_start m_token m_number m_isWrong m_items m_saidPeople m_saidLaw m_ringed m_lumps m_weight m_wants m_wantsMany m_st m_was m_images m_isKept m_told m_text m_saidWeight m_saidNights m_saidWants m_saidMany m_now m_gave m_at m_way m_bestWay m_made a1 hR
  obtain ⟨P, WL, WT, ht, hp, ha, hy, hi, ho, hm, hg⟩ := hR
  have hp' := hp
  have ha' := ha
  obtain ⟨hP, rfl, rfl, hw, hl⟩ := hp
  obtain ⟨hs, lf, bt, g, c, n, w, hb⟩ := ha
  have hb' := hb
  obtain ⟨b1, b2, b3, b4, ⟨g1, rfl, g3, g4⟩, b6, b7, b8, b9⟩ := hb
  unfold f_X7_gives f_X8_gives
  rcases pk_ix a1 (n := P) (by omega) with h | h | ⟨p, hp1, rfl⟩
  · rw [knows_no N (Or.inl h), isPerson_no N hP (Or.inl h), if00, if00]; exact ⟨_, _, _, _, _, _, _, _, _, _, _, _, _, _, _, rfl, rfl, P, WL, WT, ht, hp', ha', hy, hi, ho, hm, hg⟩
  · rw [knows_no N (Or.inr h), isPerson_no N hP (Or.inr h), if00, if00]; exact ⟨_, _, _, _, _, _, _, _, _, _, _, _, _, _, _, rfl, rfl, P, WL, WT, ht, hp', ha', hy, hi, ho, hm, hg⟩
  have hA := two_lt hP (ableS_lt P hs lf)
  have hG := two_lt hP g1
  rw [knows_yes N (by omega) hp1, isPerson_yes N hP hp1, if10, if10, ableX hN hP (fun q hq => ⟨(b1 q hq).1, (b1 q hq).2.2.1⟩) (fun q hq => ⟨(b4 q hq).1, (b4 q hq).2.1⟩) (fun q q1 q2 => (b3 q q1 q2).1), ableM hN hP (fun q hq => ⟨(b1 q hq).1, (b1 q hq).2.2.2⟩) (fun q hq => ⟨(b4 q hq).1, (b4 q hq).2.2⟩)]
  rw [holds_n N (by omega) (by omega), has_n N (by omega) (by omega), b01, b01]
  simp only [i12, ck_t, c12, g3]
  rw [holds_n N (by omega) (by omega), has_n N (by omega) (by omega), b01, b01, ableS_bit hp1]
  by_cases hab : (decide (hs p ≠ 6) && decide (0 < lf p)) = true
  · rw [hab]
    simp only [if_true]
    by_cases hgb : g.testBit p = true
    · rw [hgb]
      exact ⟨_, _, _, _, _, _, _, _, _, _, _, _, _, _, _, rfl, rfl, P, WL, WT, ht, hp', ha', hy, hi, ho, hm, hg⟩
    · rw [Bool.not_eq_true] at hgb
      rw [hgb]
      obtain ⟨y1, y2, y3, y4, y5, y6, y7, y8, y9, y10, y11, y12, e1, e2, hy'⟩ := co_rem hN hP hy ha'
      simp only [Bool.false_eq_true, if_false]
      rw [e1, e2, upd_s, sh1 p (by omega), or_nI, bc_e N (by have := two_lt hP (or_bit hP g1 hp1); omega), bits_e hN (by have := two_lt hP (or_bit hP g1 hp1); omega)]
      refine ⟨_, _, _, _, _, _, _, _, _, _, _, _, _, _, _, rfl, rfl, P, WL, WT, ht, hp', Rb_given hb' hP (or_bit hP g1 hp1) (fun q hq hq2 => ?_), hy', hi, ho, hm, hg⟩
      rw [Nat.testBit_or, Nat.testBit_two_pow] at hq2
      by_cases e : p = q
      · subst e
        simpa using hab
      · exact g4 q hq (by simpa [e] using hq2)
  · rw [Bool.not_eq_true] at hab
    rw [hab]
    exact ⟨_, _, _, _, _, _, _, _, _, _, _, _, _, _, _, rfl, rfl, P, WL, WT, ht, hp', ha', hy, hi, ho, hm, hg⟩
set_option maxHeartbeats 2000000 in
theorem st_takes {N : Nat} (hN : 200000 ≤ N) : St_takes N Rel := by
  intro x_told x_marks xs_length xs_place xs_tokenPlace xs_token xs_value xs_lawTold xsd_size xsd_law xsd_weight xsd_nights xsd_wanted xsd_wantCount xsd_wantBits xs_letters xp_size xp_law xp_weight xp_nights xp_wanted xp_wantCount xp_wantBits xh_bitCount xh_given xh_made xh_gone xh_law xh_has xh_left xh_bits xy_next xy_known xyr_has xyr_left xyr_bits xyr_bitCount xyr_given xyr_made xyr_gone xyr_law x_kept xk_left xk_lumpCount xk_ringed xk_gave xk_giver xk_aims xk_got xk_lumps xg_hours xg_best xu_sums xu_hours x_toldSet x_toldWho x_toldHour xm_has xm_left xm_bits xm_bitCount xm_given xm_made xm_gone xm_law m_people m_known m_toldMany m_trace m_texted m_cursor m_start m_token m_number m_isWrong m_items m_saidPeople m_saidLaw m_ringed m_lumps m_weight m_wants m_wantsMany m_st m_was m_images m_isKept m_told m_text m_saidWeight m_saidNights m_saidWants m_saidMany m_now m_gave m_at m_way m_bestWay m_made a1 hR
  obtain ⟨P, WL, WT, ht, hp, ha, hy, hi, ho, hm, hg⟩ := hR
  have hp' := hp
  have ha' := ha
  obtain ⟨hP, rfl, rfl, hw, hl⟩ := hp
  obtain ⟨hs, lf, bt, g, c, n, w, hb⟩ := ha
  have hb' := hb
  obtain ⟨b1, b2, b3, b4, ⟨g1, rfl, g3, g4⟩, b6, b7, b8, b9⟩ := hb
  unfold f_X7_takes f_X8_takes
  rcases pk_ix a1 (n := P) (by omega) with h | h | ⟨p, hp1, rfl⟩
  · rw [knows_no N (Or.inl h), isPerson_no N hP (Or.inl h), if00, if00]; exact ⟨_, _, _, _, _, _, _, _, _, _, _, _, _, _, _, rfl, rfl, P, WL, WT, ht, hp', ha', hy, hi, ho, hm, hg⟩
  · rw [knows_no N (Or.inr h), isPerson_no N hP (Or.inr h), if00, if00]; exact ⟨_, _, _, _, _, _, _, _, _, _, _, _, _, _, _, rfl, rfl, P, WL, WT, ht, hp', ha', hy, hi, ho, hm, hg⟩
  have hG := two_lt hP g1
  rw [knows_yes N (by omega) hp1, isPerson_yes N hP hp1, if10, if10]
  simp only [i12, ck_t, c12, g3]
  rw [holds_n N (by omega) (by omega), has_n N (by omega) (by omega), b01, b01]
  by_cases hgb : g.testBit p = true
  · rw [hgb]
    obtain ⟨y1, y2, y3, y4, y5, y6, y7, y8, y9, y10, y11, y12, e1, e2, hy'⟩ := co_rem hN hP hy ha'
    have hlt : g &&& (63 ^^^ 2 ^ p) < 2 ^ P := Nat.lt_of_le_of_lt Nat.and_le_left g1
    have h64 := two_lt hP hlt
    simp only [if_true]
    rw [e1, e2, upd_s, and_not g hG p (by omega), bc_e N (by omega), bits_e hN (by omega)]
    refine ⟨_, _, _, _, _, _, _, _, _, _, _, _, _, _, _, rfl, rfl, P, WL, WT, ht, hp', Rb_given hb' hP hlt (fun q hq hq2 => ?_), hy', hi, ho, hm, hg⟩
    rw [clr_bit g p q (by omega)] at hq2
    simp only [Bool.and_eq_true] at hq2
    exact g4 q hq hq2.1
  · rw [Bool.not_eq_true] at hgb
    rw [hgb]
    exact ⟨_, _, _, _, _, _, _, _, _, _, _, _, _, _, _, rfl, rfl, P, WL, WT, ht, hp', ha', hy, hi, ho, hm, hg⟩
set_option maxHeartbeats 2000000 in
theorem st_laws {N : Nat} (hN : 200000 ≤ N) : St_laws N Rel := by
  intro x_told x_marks xs_length xs_place xs_tokenPlace xs_token xs_value xs_lawTold xsd_size xsd_law xsd_weight xsd_nights xsd_wanted xsd_wantCount xsd_wantBits xs_letters xp_size xp_law xp_weight xp_nights xp_wanted xp_wantCount xp_wantBits xh_bitCount xh_given xh_made xh_gone xh_law xh_has xh_left xh_bits xy_next xy_known xyr_has xyr_left xyr_bits xyr_bitCount xyr_given xyr_made xyr_gone xyr_law x_kept xk_left xk_lumpCount xk_ringed xk_gave xk_giver xk_aims xk_got xk_lumps xg_hours xg_best xu_sums xu_hours x_toldSet x_toldWho x_toldHour xm_has xm_left xm_bits xm_bitCount xm_given xm_made xm_gone xm_law m_people m_known m_toldMany m_trace m_texted m_cursor m_start m_token m_number m_isWrong m_items m_saidPeople m_saidLaw m_ringed m_lumps m_weight m_wants m_wantsMany m_st m_was m_images m_isKept m_told m_text m_saidWeight m_saidNights m_saidWants m_saidMany m_now m_gave m_at m_way m_bestWay m_made a1 hR
  obtain ⟨P, WL, WT, ht, hp, ha, hy, hi, ho, hm, hg⟩ := hR
  have hp' := hp
  have ha' := ha
  obtain ⟨hP, rfl, rfl, hw, hl⟩ := hp
  obtain ⟨hs, lf, bt, g, c, n, w, hb⟩ := ha
  have hb' := hb
  obtain ⟨b1, b2, b3, b4, b5, b6, b7, b8, ⟨w1, rfl, w3⟩⟩ := hb
  unfold f_X7_laws f_X8_laws
  rw [in_w]
  rcases win a1 (b := 2) (n := 2) rfl (by decide) with hw2 | ⟨v, hv, rfl, q1, q2⟩
  · rw [within_no N hw2, within_no N hw2, if00, if00]; exact ⟨_, _, _, _, _, _, _, _, _, _, _, _, _, _, _, rfl, rfl, P, WL, WT, ht, hp', ha', hy, hi, ho, hm, hg⟩
  rw [within_yes N q1 q2, within_yes N q1 q2, if10, if10]
  simp only [i24, ck_t, c24, w3]
  by_cases e : v = w
  · subst e
    rw [if_pos rfl, if_pos rfl]
    exact ⟨_, _, _, _, _, _, _, _, _, _, _, _, _, _, _, rfl, rfl, P, WL, WT, ht, hp', ha', hy, hi, ho, hm, hg⟩
  · rw [if_neg (fun h => e (inj_n (by omega) (by omega) h)), if_neg (fun h => e (inj_n (by omega) (by omega) h.symm))]
    obtain ⟨y1, y2, y3, y4, y5, y6, y7, y8, y9, y10, y11, y12, e1, e2, hy'⟩ := co_rem hN hP hy ha'
    rw [e1, e2]
    exact ⟨_, _, _, _, _, _, _, _, _, _, _, _, _, _, _, rfl, rfl, P, WL, WT, ht, hp', Rb_law hb' hP hv, hy', hi, ho, hm, hg⟩
set_option maxHeartbeats 2000000 in
theorem st_undo {N : Nat} (hN : 200000 ≤ N) : St_undo N Rel := by
  intro x_told x_marks xs_length xs_place xs_tokenPlace xs_token xs_value xs_lawTold xsd_size xsd_law xsd_weight xsd_nights xsd_wanted xsd_wantCount xsd_wantBits xs_letters xp_size xp_law xp_weight xp_nights xp_wanted xp_wantCount xp_wantBits xh_bitCount xh_given xh_made xh_gone xh_law xh_has xh_left xh_bits xy_next xy_known xyr_has xyr_left xyr_bits xyr_bitCount xyr_given xyr_made xyr_gone xyr_law x_kept xk_left xk_lumpCount xk_ringed xk_gave xk_giver xk_aims xk_got xk_lumps xg_hours xg_best xu_sums xu_hours x_toldSet x_toldWho x_toldHour xm_has xm_left xm_bits xm_bitCount xm_given xm_made xm_gone xm_law m_people m_known m_toldMany m_trace m_texted m_cursor m_start m_token m_number m_isWrong m_items m_saidPeople m_saidLaw m_ringed m_lumps m_weight m_wants m_wantsMany m_st m_was m_images m_isKept m_told m_text m_saidWeight m_saidNights m_saidWants m_saidMany m_now m_gave m_at m_way m_bestWay m_made hR
  obtain ⟨P, WL, WT, ht, hp, ha, hy, hi, ho, hm, hg⟩ := hR
  have hp' := hp
  have ha' := ha
  have hy' := hy
  obtain ⟨hP, rfl, rfl, hw, hl⟩ := hp
  obtain ⟨n, x, hn, hx, rfl, rfl, rfl, hr⟩ := hy
  unfold f_X7_undo f_X8_undo f_X1_restore
  rcases Nat.eq_zero_or_pos n with rfl | hn0
  · rw [if_pos (show nI 0 = (0 : Int32) from rfl), if_pos (show nI 0 = (0 : Int32) from rfl)]
    exact ⟨_, _, _, _, _, _, _, _, _, _, _, _, _, rfl, rfl, P, WL, WT, ht, hp', ha', hy', hi, ho, hm, hg⟩
  · have hne : ¬ nI n = (0 : Int32) := nI_ne0 hn0 (by omega)
    have key : ∀ (ρ : Type) (k : Int32 → Int32 → Int32 → Int32 → Int32 → Int32 → Int32 → Int32 → (Nat → Int32) → (Nat → Int32) → (Nat → Int32) → Option ρ), (if nI x ≤ 0 then f_X1_restore_j28 (nI n) xh_has xh_left xh_bits xyr_has xyr_left xyr_bits xyr_bitCount xyr_given xyr_made xyr_gone xyr_law k N 9 else f_X1_restore_j28 (nI n) xh_has xh_left xh_bits xyr_has xyr_left xyr_bits xyr_bitCount xyr_given xyr_made xyr_gone xyr_law k N (nI x - 1)) = f_X1_restore_j28 (nI n) xh_has xh_left xh_bits xyr_has xyr_left xyr_bits xyr_bitCount xyr_given xyr_made xyr_gone xyr_law k N (nI ((x + 9) % 10)) := by
      intro ρ k
      rcases Nat.eq_zero_or_pos x with rfl | hx0
      · rw [if_pos (show nI 0 ≤ (0 : Int32) by decide)]; rfl
      · rw [if_neg (show ¬ nI x ≤ (0 : Int32) from nI_nle hx0 (by omega)), nI_sub1 hx0, show (x + 9) % 10 = x - 1 by omega]
    rw [if_neg hne, if_neg hne, key]
    unfold f_X1_restore_j28
    rw [ivi_n (show (x + 9) % 10 < 10 by omega) (by decide), ck_t, become_e hN, cl (by omega), nI_sub1 hn0, mul25, show (0 : Int32) = nI 0 from rfl, copy_e hN m_was m_st (by omega) (by omega) (by decide) (by decide)]
    dsimp only
    rw [if_neg (show ¬ (1 : Int32) = nI 0 by decide)]
    refine ⟨_, _, _, _, _, _, _, _, _, _, _, _, _, rfl, rfl, P, WL, WT, ht, hp', ?_, ?_, hi, ho, hm, hg⟩
    · have h0 := hr 0 hn0
      rw [show (x + 9 - 0) % 10 = (x + 9) % 10 by omega] at h0
      refine Ra_cong h0 hP (fun p hp => cpy_in hp) (fun p hp => cpy_in hp) (fun p hp => cpy_in hp) (fun k hk => ?_)
      have e := blt_in (d := m_st) (e := m_was) (a := 0) (b := 25 * (n - 1)) (n := 25) hk
      rw [Nat.zero_add] at e
      rw [e]
      rfl
    · refine ⟨n - 1, (x + 9) % 10, by omega, by omega, rfl, rfl, rfl, fun j hj => ?_⟩
      have h0 := hr (j + 1) (by omega)
      rw [show (x + 9 - (j + 1)) % 10 = ((x + 9) % 10 + 9 - j) % 10 by omega, show n - 1 - (j + 1) = n - 1 - 1 - j by omega] at h0
      exact h0
set_option maxHeartbeats 2000000 in
theorem st_keep {N : Nat} (hN : 200000 ≤ N) : St_keep N Rel := by
  intro x_told x_marks xs_length xs_place xs_tokenPlace xs_token xs_value xs_lawTold xsd_size xsd_law xsd_weight xsd_nights xsd_wanted xsd_wantCount xsd_wantBits xs_letters xp_size xp_law xp_weight xp_nights xp_wanted xp_wantCount xp_wantBits xh_bitCount xh_given xh_made xh_gone xh_law xh_has xh_left xh_bits xy_next xy_known xyr_has xyr_left xyr_bits xyr_bitCount xyr_given xyr_made xyr_gone xyr_law x_kept xk_left xk_lumpCount xk_ringed xk_gave xk_giver xk_aims xk_got xk_lumps xg_hours xg_best xu_sums xu_hours x_toldSet x_toldWho x_toldHour xm_has xm_left xm_bits xm_bitCount xm_given xm_made xm_gone xm_law m_people m_known m_toldMany m_trace m_texted m_cursor m_start m_token m_number m_isWrong m_items m_saidPeople m_saidLaw m_ringed m_lumps m_weight m_wants m_wantsMany m_st m_was m_images m_isKept m_told m_text m_saidWeight m_saidNights m_saidWants m_saidMany m_now m_gave m_at m_way m_bestWay m_made a1 hR
  obtain ⟨P, WL, WT, ht, hp, ha, hy, hi, ho, hm, hg⟩ := hR
  have hp' := hp
  have ha' := ha
  obtain ⟨hP, rfl, rfl, hw, hl⟩ := hp
  obtain ⟨hs, lf, bt, g, c, n, w, b1, b2, b3, b4, b5, b6, b7, ⟨n1, rfl, n3⟩, b9⟩ := ha
  unfold f_X7_keep f_X8_keep
  rw [in_w]
  rcases win a1 (b := 1) (n := 1) rfl (by decide) with hw2 | ⟨v, hv, rfl, q1, q2⟩
  · rw [within_no N hw2, within_no N hw2, if00, if00]; exact ⟨_, _, _, _, _, _, _, _, _, _, _, _, rfl, rfl, P, WL, WT, ht, hp', ha', hy, hi, ho, hm, hg⟩
  rw [within_yes N q1 q2, within_yes N q1 q2, if10, if10]
  simp only [ivi_n (show v < 2 by omega) (by decide), ck_t, cl (show v < 2 ^ 31 by omega), mul25, i23, c23, n3]
  rw [become_e hN, show (0 : Int32) = nI 0 from rfl, copy_e hN m_st m_images (by omega) (by omega) (by decide) (by decide)]
  refine ⟨_, _, _, _, _, _, _, _, _, _, _, _, rfl, rfl, P, WL, WT, ht, hp', ha', hy, fun i hi2 => ?_, ho, hm, hg⟩
  by_cases e : i = v
  · subst e
    simp only [va_up_s, upd_s]
    refine ⟨Or.inr trivial, trivial, fun _ => ?_⟩
    refine Ra_cong ha' hP (fun p hp => cpy_in hp) (fun p hp => cpy_in hp) (fun p hp => cpy_in hp) (fun k hk => ?_)
    rw [blt_in hk, Nat.zero_add]
  · obtain ⟨i1, i2, i3⟩ := hi i hi2
    rw [va_up_ne _ _ e, va_up_ne _ _ e, va_up_ne _ _ e, va_up_ne _ _ e, va_up_ne _ _ e, va_up_ne _ _ e, va_up_ne _ _ e, va_up_ne _ _ e, upd_n e, upd_n e]
    refine ⟨i1, i2, fun h => ?_⟩
    refine Ra_cong (i3 h) hP (fun _ _ => rfl) (fun _ _ => rfl) (fun _ _ => rfl) (fun k hk => ?_)
    exact blt_out (by omega)
set_option maxHeartbeats 2000000 in
theorem st_back {N : Nat} (hN : 200000 ≤ N) : St_back N Rel := by
  intro x_told x_marks xs_length xs_place xs_tokenPlace xs_token xs_value xs_lawTold xsd_size xsd_law xsd_weight xsd_nights xsd_wanted xsd_wantCount xsd_wantBits xs_letters xp_size xp_law xp_weight xp_nights xp_wanted xp_wantCount xp_wantBits xh_bitCount xh_given xh_made xh_gone xh_law xh_has xh_left xh_bits xy_next xy_known xyr_has xyr_left xyr_bits xyr_bitCount xyr_given xyr_made xyr_gone xyr_law x_kept xk_left xk_lumpCount xk_ringed xk_gave xk_giver xk_aims xk_got xk_lumps xg_hours xg_best xu_sums xu_hours x_toldSet x_toldWho x_toldHour xm_has xm_left xm_bits xm_bitCount xm_given xm_made xm_gone xm_law m_people m_known m_toldMany m_trace m_texted m_cursor m_start m_token m_number m_isWrong m_items m_saidPeople m_saidLaw m_ringed m_lumps m_weight m_wants m_wantsMany m_st m_was m_images m_isKept m_told m_text m_saidWeight m_saidNights m_saidWants m_saidMany m_now m_gave m_at m_way m_bestWay m_made a1 hR
  obtain ⟨P, WL, WT, ht, hp, ha, hy, hi, ho, hm, hg⟩ := hR
  have hp' := hp
  have ha' := ha
  obtain ⟨hP, rfl, rfl, hw, hl⟩ := hp
  unfold f_X7_back f_X8_back
  rw [in_w]
  rcases win a1 (b := 1) (n := 1) rfl (by decide) with hw2 | ⟨v, hv, rfl, q1, q2⟩
  · rw [within_no N hw2, within_no N hw2, if00, if00]; exact ⟨_, _, _, _, _, _, _, _, _, _, _, _, rfl, rfl, P, WL, WT, ht, hp', ha', hy, hi, ho, hm, hg⟩
  rw [within_yes N q1 q2, within_yes N q1 q2, if10, if10]
  obtain ⟨i1, i2, i3⟩ := hi v (by omega)
  simp only [ivi_n (show v < 2 by omega) (by decide), ck_t, cl (show v < 2 ^ 31 by omega), mul25, i23, c23, i2]
  rcases i1 with h0 | h0
  · rw [if_pos h0, if_pos h0]
    exact ⟨_, _, _, _, _, _, _, _, _, _, _, _, rfl, rfl, P, WL, WT, ht, hp', ha', hy, hi, ho, hm, hg⟩
  · have hn0 : ¬ x_kept v = 0 := by rw [h0]; decide
    have h3 := i3 h0
    have h3' := h3
    obtain ⟨hs, lf, bt, g, c, n, w, b1, b2, b3, b4, b5, b6, b7, ⟨n1, n2, n3⟩, b9⟩ := h3
    rw [if_neg hn0, if_neg hn0, become_e hN, show f_X8_copy N m_images m_st 50 25 0 = f_X8_copy N m_images m_st 50 25 (nI 0) from rfl, copy_e hN m_images m_st (by omega) (by omega) (by decide) (by decide)]
    have e23 : blt m_st m_images 0 (25 * v) 25 23 = xm_gone v := by
      have e := blt_in (d := m_st) (e := m_images) (a := 0) (b := 25 * v) (n := 25) (k := 23) (by omega)
      rw [Nat.zero_add] at e
      rw [e, n2]
      exact n3
    rw [e23]
    refine ⟨_, _, _, _, _, _, _, _, _, _, _, _, rfl, rfl, P, WL, WT, ht, hp', ?_, ⟨0, ?_⟩, hi, ho, hm, hg⟩
    · refine Ra_cong h3' hP (fun p hp => cpy_in hp) (fun p hp => cpy_in hp) (fun p hp => cpy_in hp) (fun k hk => ?_)
      have e := blt_in (d := m_st) (e := m_images) (a := 0) (b := 25 * v) (n := 25) hk
      rw [Nat.zero_add] at e
      exact e
    · obtain ⟨n9, x9, -, hx9, -, -, e9, -⟩ := hy
      exact ⟨x9, by omega, hx9, rfl, rfl, e9, fun j h => absurd h (by omega)⟩

