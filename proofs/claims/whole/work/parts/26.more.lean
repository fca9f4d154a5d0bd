/-! 26.more: person, now, tells, rate -/
theorem own_l4 {ρ : Type} (has : Nat → Int32) (k : Int32 → Option ρ) : ∀ (d i n : Nat), i + d = 6 → d < n → f_X0_withTheirOwn_l4 has k n (nI (bset (fun p => decide (has p = nI p)) i)) (nI i) = k (nI (bset (fun p => decide (has p = nI p)) 6)) := by
  intro d
  induction d with
  | zero =>
    intro i n h hn
    obtain ⟨n, rfl⟩ := succ_of hn
    obtain rfl : i = 6 := by omega
    rw [f_X0_withTheirOwn_l4, if_pos (show (6 : Int32) ≤ nI 6 by decide)]
  | succ d ih =>
    intro i n h hn
    obtain ⟨n, rfl⟩ := succ_of hn
    have key := ih (i + 1) n (by omega) (by omega)
    rw [f_X0_withTheirOwn_l4, if_neg (show ¬ (6 : Int32) ≤ nI i from nI_ge (b := 6) (by omega) (by decide))]
    simp only [ivi_n (show i < 6 by omega) (by decide), ck_t, cl (show i < 2 ^ 31 by omega), nI_1, sh1 i (by omega), or_nI]
    rw [bset] at key
    by_cases h1 : has i = nI i
    · rw [if_pos h1]
      simpa [h1] using key
    · rw [if_neg h1]
      simpa [h1] using key
theorem nowM_l4 {ρ : Type} {P : Nat} (hP : P ≤ 6) (st : Nat → Int32) (k : Int32 → Option ρ) : ∀ (d i n : Nat), i + d = P → d < n → f_X8_now_l4 (nI P) st k n (nI (bset (fun p => decide (st p = nI p)) i)) (nI i) = k (nI (bset (fun p => decide (st p = nI p)) P)) := by
  intro d
  induction d with
  | zero =>
    intro i n h hn
    obtain ⟨n, rfl⟩ := succ_of hn
    obtain rfl : i = P := by omega
    rw [f_X8_now_l4, if_pos (nI_le (Nat.le_refl _) (by omega))]
  | succ d ih =>
    intro i n h hn
    obtain ⟨n, rfl⟩ := succ_of hn
    have key := ih (i + 1) n (by omega) (by omega)
    rw [f_X8_now_l4, if_neg (nI_ge (by omega) (by omega))]
    simp only [show (0 : Int32) + nI i = nI i from Int32.zero_add _, ivi_n (show i < 25 by omega) (by decide), ck_t, cl (show i < 2 ^ 31 by omega), f_X8_now_j32, nI_1, sh1 i (by omega), or_nI]
    rw [bset] at key
    by_cases h1 : st i = nI i
    · rw [if_pos h1]
      simpa [h1] using key
    · rw [if_neg h1]
      simpa [h1] using key
set_option maxHeartbeats 2000000 in
theorem st_now {N : Nat} (hN : 200000 ≤ N) : St_now N Rel := by
  intro x_told x_marks xs_length xs_place xs_tokenPlace xs_token xs_value xs_lawTold xsd_size xsd_law xsd_weight xsd_nights xsd_wanted xsd_wantCount xsd_wantBits xs_letters xp_size xp_law xp_weight xp_nights xp_wanted xp_wantCount xp_wantBits xh_bitCount xh_given xh_made xh_gone xh_law xh_has xh_left xh_bits xy_next xy_known xyr_has xyr_left xyr_bits xyr_bitCount xyr_given xyr_made xyr_gone xyr_law x_kept xk_left xk_lumpCount xk_ringed xk_gave xk_giver xk_aims xk_got xk_lumps xg_hours xg_best xu_sums xu_hours x_toldSet x_toldWho x_toldHour xm_has xm_left xm_bits xm_bitCount xm_given xm_made xm_gone xm_law m_people m_known m_toldMany m_trace m_texted m_cursor m_start m_token m_number m_isWrong m_items m_saidPeople m_saidLaw m_ringed m_lumps m_weight m_wants m_wantsMany m_st m_was m_images m_isKept m_told m_text m_saidWeight m_saidNights m_saidWants m_saidMany m_now m_gave m_at m_way m_bestWay m_made a1 hR
  obtain ⟨P, WL, WT, ht, hp, ha, hy, hi, ho, hm, hg⟩ := hR
  have ha' := ha
  have hy' := hy
  have hp' := hp
  obtain ⟨hP, rfl, rfl, hw, hl⟩ := hp
  obtain ⟨hs, lf, bt, g, c, n, w, b1, b2, b3, b4, ⟨g1, rfl, g3, g4⟩, ⟨c1, rfl, c3, c4⟩, b7, ⟨n1, rfl, n3⟩, ⟨w1, rfl, w3⟩⟩ := ha
  obtain ⟨n9, x9, hn9, hx9, rfl, rfl, rfl, hr9⟩ := hy
  unfold f_X7_now f_X8_now f_X0_withTheirOwn
  have e1 := nowM_l4 hP m_st (fun y2_e40 => f_X8_now_e40 a1 (nI n9) m_st (fun r => some r) y2_e40) P 0 N (by omega) (by omega)
  have e2 := own_l4 xh_has (fun r88 => (some r88 : Option Int32)) 6 0 N (by omega) (by omega)
  have e3 : bset (fun p => decide (xh_has p = nI p)) 6 = bset (fun p => decide (m_st p = nI p)) P := by
    rw [bset_more (n := P) hP (fun i q1 q2 => by
      rw [(b3 i q1 q2).1]
      have := ne9 (a := i) (by omega)
      simp [Ne.symm this, fun h : (-9 : Int32) = nI i => this h.symm])]
    refine bset_cong (fun i hi => ?_)
    obtain ⟨a1, a2, a3, a4⟩ := b1 i hi
    rw [a3, a4]
    by_cases e : hs i = 6
    · rw [if_pos e, e]
      have h1 := ne9 (a := i) (by omega)
      have h2 : ¬ nI 6 = nI i := fun h => absurd (inj_n (by omega) (by omega) h) (by omega)
      have h3 : ¬ (-9 : Int32) = nI i := fun h => h1 h.symm
      simp [h2, h3]
    · rw [if_neg e]
  rw [e3] at e2
  have e1' : f_X8_now_l4 (nI P) m_st (fun y2_e40 => f_X8_now_e40 a1 (nI n9) m_st (fun r => some r) y2_e40) N 0 0 = _ := e1
  have e2' : f_X0_withTheirOwn_l4 xh_has (fun r88 => (some r88 : Option Int32)) N 0 0 = _ := e2
  rw [e1', e2']
  unfold f_X8_now_e40
  simp only [i12, i13, i22, i23, i24, ck_t, c12, c13, c22, c23, c24, g3, c3, n3, w3, ← b7]
  by_cases q0 : a1 = 0
  · simp only [if_pos q0]; exact ⟨_, rfl, rfl, P, WL, WT, ht, hp', ha', hy', hi, ho, hm, hg⟩
  simp only [if_neg q0]
  by_cases q1 : a1 = 1
  · simp only [if_pos q1]; exact ⟨_, rfl, rfl, P, WL, WT, ht, hp', ha', hy', hi, ho, hm, hg⟩
  simp only [if_neg q1]
  by_cases q2 : a1 = 2
  · simp only [if_pos q2]; exact ⟨_, rfl, rfl, P, WL, WT, ht, hp', ha', hy', hi, ho, hm, hg⟩
  simp only [if_neg q2]
  by_cases q3 : a1 = 3
  · simp only [if_pos q3]; exact ⟨_, rfl, rfl, P, WL, WT, ht, hp', ha', hy', hi, ho, hm, hg⟩
  simp only [if_neg q3]
  by_cases q4 : a1 = 4
  · simp only [if_pos q4]; exact ⟨_, rfl, rfl, P, WL, WT, ht, hp', ha', hy', hi, ho, hm, hg⟩
  simp only [if_neg q4]
  by_cases q5 : a1 = 5
  · simp only [if_pos q5]; exact ⟨_, rfl, rfl, P, WL, WT, ht, hp', ha', hy', hi, ho, hm, hg⟩
  simp only [if_neg q5]
  by_cases q6 : a1 = 6
  · simp only [if_pos q6]; exact ⟨_, rfl, rfl, P, WL, WT, ht, hp', ha', hy', hi, ho, hm, hg⟩
  simp only [if_neg q6]
  exact ⟨_, rfl, rfl, P, WL, WT, ht, hp', ha', hy', hi, ho, hm, hg⟩
set_option maxHeartbeats 2000000 in
theorem st_person {N : Nat} (hN : 200000 ≤ N) : St_person N Rel := by
  intro x_told x_marks xs_length xs_place xs_tokenPlace xs_token xs_value xs_lawTold xsd_size xsd_law xsd_weight xsd_nights xsd_wanted xsd_wantCount xsd_wantBits xs_letters xp_size xp_law xp_weight xp_nights xp_wanted xp_wantCount xp_wantBits xh_bitCount xh_given xh_made xh_gone xh_law xh_has xh_left xh_bits xy_next xy_known xyr_has xyr_left xyr_bits xyr_bitCount xyr_given xyr_made xyr_gone xyr_law x_kept xk_left xk_lumpCount xk_ringed xk_gave xk_giver xk_aims xk_got xk_lumps xg_hours xg_best xu_sums xu_hours x_toldSet x_toldWho x_toldHour xm_has xm_left xm_bits xm_bitCount xm_given xm_made xm_gone xm_law m_people m_known m_toldMany m_trace m_texted m_cursor m_start m_token m_number m_isWrong m_items m_saidPeople m_saidLaw m_ringed m_lumps m_weight m_wants m_wantsMany m_st m_was m_images m_isKept m_told m_text m_saidWeight m_saidNights m_saidWants m_saidMany m_now m_gave m_at m_way m_bestWay m_made a1 a2 hR
  obtain ⟨P, WL, WT, ht, hp, ha, hy, hi, ho, hm, hg⟩ := hR
  have ha' := ha
  have hp' := hp
  obtain ⟨hP, rfl, rfl, hw, hl⟩ := hp
  obtain ⟨hs, lf, bt, g, c, n, w, b1, b2, b3, b4, ⟨g1, rfl, g3, g4⟩, b6, b7, b8, b9⟩ := ha
  unfold f_X7_person f_X8_person
  rcases pk_ix a1 (n := P) (by omega) with h | h | ⟨p, hp1, rfl⟩
  · rw [knows_no N (Or.inl h), isPerson_no N hP (Or.inl h), if00, if00]; exact ⟨_, rfl, rfl, P, WL, WT, ht, hp', ha', hy, hi, ho, hm, hg⟩
  · rw [knows_no N (Or.inr h), isPerson_no N hP (Or.inr h), if00, if00]; exact ⟨_, rfl, rfl, P, WL, WT, ht, hp', ha', hy, hi, ho, hm, hg⟩
  rw [knows_yes N (by omega) hp1, isPerson_yes N hP hp1, if10, if10]
  obtain ⟨d1, d2, d3, d4⟩ := b1 p hp1
  obtain ⟨l1, l2, l3⟩ := b4 p hp1
  obtain ⟨t1, t2, t3, t4⟩ := hw p hp1
  obtain ⟨k1, k2, k3, k4, k5, k6⟩ := hl p hp1
  have hG := two_lt hP g1
  simp only [show (0 : Int32) + nI p = nI p from Int32.zero_add _, show (6 : Int32) + nI p = nI (6 + p) from nI_add 6 p]
  simp only [ivi_n (show p < 6 by omega) (by decide), ivi_n (show p < 25 by omega) (by decide), ivi_n (show 6 + p < 25 by omega) (by decide), ck_t, cl (show p < 2 ^ 31 by omega), cl (show 6 + p < 2 ^ 31 by omega), i12, c12, g3, d3, d4, l2, l3, t3, t4, k4, k5]
  rw [holds_n N (by omega) (by omega), has_n N (by omega) (by omega)]
  by_cases q0 : a2 = 0
  · simp only [if_pos q0]; exact ⟨_, rfl, rfl, P, WL, WT, ht, hp', ha', hy, hi, ho, hm, hg⟩
  simp only [if_neg q0]
  by_cases q1 : a2 = 1
  · simp only [if_pos q1]; exact ⟨_, rfl, rfl, P, WL, WT, ht, hp', ha', hy, hi, ho, hm, hg⟩
  simp only [if_neg q1]
  by_cases q2 : a2 = 2
  · simp only [if_pos q2]
    by_cases e : hs p = 6
    · rw [if_pos e, if_pos (show nI (hs p) = (6 : Int32) by rw [e]; rfl)]
      exact ⟨_, rfl, rfl, P, WL, WT, ht, hp', ha', hy, hi, ho, hm, hg⟩
    · rw [if_neg e, if_neg (show ¬ nI (hs p) = (6 : Int32) from fun h => e (inj_n (b := 6) (by omega) (by decide) h))]
      exact ⟨_, rfl, rfl, P, WL, WT, ht, hp', ha', hy, hi, ho, hm, hg⟩
  simp only [if_neg q2]
  by_cases q3 : a2 = 3
  · simp only [if_pos q3, b01]
    cases g.testBit p <;> exact ⟨_, rfl, rfl, P, WL, WT, ht, hp', ha', hy, hi, ho, hm, hg⟩
  simp only [if_neg q3]
  by_cases q4 : a2 = 4
  · simp only [if_pos q4]; exact ⟨_, rfl, rfl, P, WL, WT, ht, hp', ha', hy, hi, ho, hm, hg⟩
  simp only [if_neg q4]
  exact ⟨_, rfl, rfl, P, WL, WT, ht, hp', ha', hy, hi, ho, hm, hg⟩
theorem all_e {P : Nat} (hP : P ≤ 6) : ((1 : Int32) <<< (nI P &&& 31)) - 1 = nI (2 ^ P - 1) := by
  rw [sh1 P (by omega), nI_sub1 (Nat.two_pow_pos P)]
theorem isSetOf_e {ρ : Type} (N : Nat) (x y : Int32) (k : Int32 → Option ρ) : f_X7_isSetOf N x y k = f_X7_within N x 0 (((1 : Int32) <<< (y &&& 31)) - 1) (fun r7 => k r7) := by
  unfold f_X7_isSetOf f_X7_within
  by_cases h : x < 0
  · rw [if_pos h, if_pos h]; rfl
  · rw [if_neg h, if_neg h]
    split <;> rfl
theorem pred_two {P s : Nat} (h : s ≤ 2 ^ P - 1) : s < 2 ^ P := by have := Nat.two_pow_pos P; omega
set_option maxHeartbeats 2000000 in
theorem st_tells {N : Nat} (hN : 200000 ≤ N) : St_tells N Rel := by
  intro x_told x_marks xs_length xs_place xs_tokenPlace xs_token xs_value xs_lawTold xsd_size xsd_law xsd_weight xsd_nights xsd_wanted xsd_wantCount xsd_wantBits xs_letters xp_size xp_law xp_weight xp_nights xp_wanted xp_wantCount xp_wantBits xh_bitCount xh_given xh_made xh_gone xh_law xh_has xh_left xh_bits xy_next xy_known xyr_has xyr_left xyr_bits xyr_bitCount xyr_given xyr_made xyr_gone xyr_law x_kept xk_left xk_lumpCount xk_ringed xk_gave xk_giver xk_aims xk_got xk_lumps xg_hours xg_best xu_sums xu_hours x_toldSet x_toldWho x_toldHour xm_has xm_left xm_bits xm_bitCount xm_given xm_made xm_gone xm_law m_people m_known m_toldMany m_trace m_texted m_cursor m_start m_token m_number m_isWrong m_items m_saidPeople m_saidLaw m_ringed m_lumps m_weight m_wants m_wantsMany m_st m_was m_images m_isKept m_told m_text m_saidWeight m_saidNights m_saidWants m_saidMany m_now m_gave m_at m_way m_bestWay m_made a1 a2 a3 hR
  obtain ⟨P, WL, WT, ht, hp, ha, hy, hi, ho, hm, hg⟩ := hR
  have hp' := hp
  have ho' := ho
  obtain ⟨hP, rfl, rfl, hw, hl⟩ := hp
  obtain ⟨t, h6, rfl, rfl, hto⟩ := ho
  unfold f_X7_tells f_X8_tells f_X8_all
  dsimp only
  rw [isSetOf_e, in_w, all_e hP]
  have h64 := pow6 hP
  rcases win a1 (b := nI (2 ^ P - 1)) (n := 2 ^ P - 1) rfl (by omega) with hw2 | ⟨s, hs, rfl, q1, q2⟩
  · have hw3 : a1 < 1 ∨ nI (2 ^ P - 1) < a1 := hw2.imp (fun h => Int32.lt_trans h (by decide)) id
    rw [within_no N hw2, within_no N hw3, if00, if00]; exact ⟨_, _, _, _, _, _, _, rfl, rfl, P, WL, WT, ht, hp', ha, hy, hi, ho', hm, hg⟩
  have hs2 := pred_two hs
  rw [within_yes N q1 q2, if10]
  rcases Nat.eq_zero_or_pos s with rfl | hs0
  · rw [within_no N (Or.inl (show nI 0 < 1 by decide)), if00]
    rcases pk_ix a2 (n := P) (by omega) with h | h | ⟨p, hp1, rfl⟩
    · rw [knows_no N (Or.inl h), if00]; exact ⟨_, _, _, _, _, _, _, rfl, rfl, P, WL, WT, ht, hp', ha, hy, hi, ho', hm, hg⟩
    · rw [knows_no N (Or.inr h), if00]; exact ⟨_, _, _, _, _, _, _, rfl, rfl, P, WL, WT, ht, hp', ha, hy, hi, ho', hm, hg⟩
    rw [knows_yes N (by omega) hp1, if10]
    rcases pk_ix a3 (n := P) (by omega) with h | h | ⟨q, hq1, rfl⟩
    · rw [knows_no N (Or.inl h), if00]; exact ⟨_, _, _, _, _, _, _, rfl, rfl, P, WL, WT, ht, hp', ha, hy, hi, ho', hm, hg⟩
    · rw [knows_no N (Or.inr h), if00]; exact ⟨_, _, _, _, _, _, _, rfl, rfl, P, WL, WT, ht, hp', ha, hy, hi, ho', hm, hg⟩
    rw [knows_yes N (by omega) hq1, if10, holds_n N (by omega) (by omega), b01, Nat.zero_testBit]
    exact ⟨_, _, _, _, _, _, _, rfl, rfl, P, WL, WT, ht, hp', ha, hy, hi, ho', hm, hg⟩
  rw [within_yes N (show ¬ nI s < 1 from nI_nlt (b := 1) (by omega) (by omega)) q2, if10]
  rcases pk_ix a2 (n := P) (by omega) with h | h | ⟨p, hp1, rfl⟩
  · rw [knows_no N (Or.inl h), isPerson_no N hP (Or.inl h), if00, if00]; exact ⟨_, _, _, _, _, _, _, rfl, rfl, P, WL, WT, ht, hp', ha, hy, hi, ho', hm, hg⟩
  · rw [knows_no N (Or.inr h), isPerson_no N hP (Or.inr h), if00, if00]; exact ⟨_, _, _, _, _, _, _, rfl, rfl, P, WL, WT, ht, hp', ha, hy, hi, ho', hm, hg⟩
  rw [knows_yes N (by omega) hp1, isPerson_yes N hP hp1, if10, if10]
  rcases pk_ix a3 (n := P) (by omega) with h | h | ⟨q, hq1, rfl⟩
  · rw [knows_no N (Or.inl h), isPerson_no N hP (Or.inl h), if00, if00]; exact ⟨_, _, _, _, _, _, _, rfl, rfl, P, WL, WT, ht, hp', ha, hy, hi, ho', hm, hg⟩
  · rw [knows_no N (Or.inr h), isPerson_no N hP (Or.inr h), if00, if00]; exact ⟨_, _, _, _, _, _, _, rfl, rfl, P, WL, WT, ht, hp', ha, hy, hi, ho', hm, hg⟩
  rw [knows_yes N (by omega) hq1, isPerson_yes N hP hq1, if10, if10, holds_n N (by omega) (by omega), has_n N (by omega) (by omega), b01, b01, holds_n N (by omega) (by omega), has_n N (by omega) (by omega), b01, b01]
  cases hsp : s.testBit p with
  | false => exact ⟨_, _, _, _, _, _, _, rfl, rfl, P, WL, WT, ht, hp', ha, hy, hi, ho', hm, hg⟩
  | true =>
    simp only [if_true]
    cases hsq : s.testBit q with
    | false => exact ⟨_, _, _, _, _, _, _, rfl, rfl, P, WL, WT, ht, hp', ha, hy, hi, ho', hm, hg⟩
    | true =>
      simp only [if_true]
      rcases Nat.lt_or_ge t 6 with h | h
      · rw [if_pos (show nI t < (6 : Int32) from nI_lt (b := 6) h (by decide)), if_neg (show ¬ nI t = (6 : Int32) from fun e => absurd (inj_n (b := 6) (by omega) (by decide) e) (by omega))]
        rw [show (3 : Int32) * nI t = nI (3 * t) from pk_mul 3 t, show nI (3 * t) + 1 = nI (3 * t + 1) from nI_1 _, show nI (3 * t) + 2 = nI (3 * t + 2) from nI_add (3 * t) 2]
        simp only [ivi_n h (show 6 < 2 ^ 31 by decide), ivi_n (show 3 * t < 18 by omega) (by decide), ivi_n (show 3 * t + 1 < 18 by omega) (by decide), ivi_n (show 3 * t + 2 < 18 by omega) (by decide), ck_t, cl (show t < 2 ^ 31 by omega), cl (show 3 * t < 2 ^ 31 by omega), cl (show 3 * t + 1 < 2 ^ 31 by omega), cl (show 3 * t + 2 < 2 ^ 31 by omega), nI_1]
        refine ⟨_, _, _, _, _, _, _, rfl, rfl, P, WL, WT, ht, hp', ha, hy, hi, ⟨t + 1, by omega, rfl, rfl, fun j hj => ?_⟩, hm, hg⟩
        by_cases e : j = t
        · subst e
          refine ⟨s, p, q, hs2, hp1, hq1, hsp, hsq, upd_s _ _ _, ?_, upd_s _ _ _, ?_, upd_s _ _ _, upd_s _ _ _⟩
          · rw [upd_n (by omega), upd_n (by omega), upd_s]
          · rw [upd_n (by omega), upd_s]
        · obtain ⟨s1, p1, q1, o1, o2, o3, o4, o5, o6, o7, o8, o9, o10, o11⟩ := hto j (by omega)
          refine ⟨s1, p1, q1, o1, o2, o3, o4, o5, by rw [upd_n e]; exact o6, ?_, by rw [upd_n e]; exact o8, ?_, by rw [upd_n e]; exact o10, ?_⟩
          · rw [upd_n (by omega), upd_n (by omega), upd_n (by omega)]; exact o7
          · rw [upd_n (by omega), upd_n (by omega), upd_n (by omega)]; exact o9
          · rw [upd_n (by omega), upd_n (by omega), upd_n (by omega)]; exact o11
      · obtain rfl : t = 6 := by omega
        rw [if_neg (show ¬ nI 6 < (6 : Int32) by decide), if_pos (show nI 6 = (6 : Int32) from rfl)]
        exact ⟨_, _, _, _, _, _, _, rfl, rfl, P, WL, WT, ht, hp', ha, hy, hi, ho', hm, hg⟩

