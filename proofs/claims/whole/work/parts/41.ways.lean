/-! 41.ways: the reference tries every way -/
theorem couldM_l23 {ρ : Type} {P : Nat} (hP : P ≤ 6) {hs : Nat → Nat} {st : Nat → Int32} (h1 : ∀ p, p < P → hs p ≤ 6 ∧ st p = nI (hs p)) (k : Int32 → Int32 → Option ρ) : ∀ (d i n : Nat), i + d = P → d < n → f_X8_could_l23 (nI P) st k n (nI (hr hs i)) (nI (7 ^ i)) (nI i) = k (nI (hr hs P)) (nI (7 ^ P)) := by
  intro d
  induction d with
  | zero =>
    intro i n h hn
    obtain ⟨n, rfl⟩ := succ_of hn
    obtain rfl : i = P := by omega
    rw [f_X8_could_l23, if_pos (nI_le (Nat.le_refl _) (by omega))]
  | succ d ih =>
    intro i n h hn
    obtain ⟨n, rfl⟩ := succ_of hn
    obtain ⟨a1, a2⟩ := h1 i (by omega)
    have key := ih (i + 1) n (by omega) (by omega)
    rw [hr, Nat.pow_succ] at key
    rw [f_X8_could_l23, if_neg (nI_ge (by omega) (by omega)), Int32.zero_add, ivi_n (show i < 25 by omega) (by decide), ck_t, cl (by omega), a2, ck_t]
    unfold f_X8_could_j62
    rw [nI_1, show nI (7 ^ i) * 7 = nI (7 ^ i * 7) from pk_mul _ 7]
    by_cases e : hs i = 6
    · rw [if_pos e] at key
      rw [if_pos (by rw [e]; decide), show (0 : Int32) = nI 0 from rfl, or_nI]
      exact key
    · rw [if_neg e] at key
      rw [if_neg (show ¬ (6 : Int32) ≤ nI (hs i) from nI_ge (b := 6) (by omega) (by decide)), sh1 _ (by omega), or_nI]
      exact key
theorem or_00 (a : Nat) : nI a ||| (0 : Int32) = nI a := by
  rw [show (0 : Int32) = nI 0 from rfl, or_nI, Nat.or_zero]
theorem wayOf_l19 {N : Nat} (hN : 200000 ≤ N) {P x : Nat} (hP : P ≤ 6) (hx : x < 7 ^ P) {hs : Nat → Nat} {WL : Nat → List Nat} {st wm ws : Nat → Int32} (h1 : ∀ p, p < P → hs p ≤ 6 ∧ (hs p ≠ 6 → hs p < P) ∧ st p = nI (hs p)) (l4 : ∀ p, p < P → (WL p).length ≤ 4) (lP : ∀ p, p < P → ∀ h, h ∈ WL p → h < P) (cw : ∀ p, p < P → wm p = nI (WL p).length) (wd : ∀ p, p < P → ∀ k, k < (WL p).length → ws (4 * p + k) = nI ((WL p).getD k 0)) : ∀ (d j n : Nat) (z : Nat → Int32), j + d = P → d < n → (∀ i, i < j → z (P - 1 - i) = nI (dg i x)) → ∃ z', (∀ (ρ : Type) (k : Int32 → Int32 → (Nat → Int32) → Option ρ), f_X8_wayOf_l19 (nI (hr hs P)) st wm ws k N n (nI (x / 7 ^ j)) (nI (mt x j)) (nI (ct x j)) (if okF (Ws P hs WL) P (hr hs P) x j then 1 else 0) (nI d - 1) z = k (nI (ct x P)) (if okF (Ws P hs WL) P (hr hs P) x P then 1 else 0) z') ∧ ∀ i, i < P → z' (P - 1 - i) = nI (dg i x) := by
  have h7 : (7 : Nat) ^ P ≤ 7 ^ 6 := Nat.pow_le_pow_right (by decide) hP
  have hH := hr_lt (fun p hp => (h1 p hp).1) P (Nat.le_refl P)
  intro d
  induction d with
  | zero =>
    intro j n z h hn hz
    obtain ⟨n, rfl⟩ := succ_of hn
    obtain rfl : j = P := by omega
    exact ⟨z, fun ρ k => by rw [f_X8_wayOf_l19, if_pos (show nI 0 - 1 < (0 : Int32) by decide)], hz⟩
  | succ d ih =>
    intro j n z h hn hz
    obtain ⟨n, rfl⟩ := succ_of hn
    have hg := dg_lt j x
    have hxj : x / 7 ^ j ≤ x := Nat.div_le_self _ _
    have hd : P - 1 - j = d := by omega
    obtain ⟨a1, a2, a3⟩ := h1 d (by omega)
    obtain ⟨z', e1, e2⟩ := ih (j + 1) n (upd z d (nI (dg j x))) (by omega) (by omega) (fun i hi => by
      by_cases e : i = j
      · subst e; rw [hd, upd_s]
      · rw [upd_n (by omega)]; exact hz i (by omega))
    refine ⟨z', fun ρ k => ?_, e2⟩
    have key := e1 ρ k
    have hrem : nI (x / 7 ^ j) - nI (x / 7 ^ j) / (7 : Int32) * (7 : Int32) = nI (dg j x) := pk_rem (d := 7) (by omega) (by decide) (by decide)
    have hdiv : nI (x / 7 ^ j) / (7 : Int32) = nI (x / 7 ^ (j + 1)) := by
      rw [show nI (x / 7 ^ j) / (7 : Int32) = nI (x / 7 ^ j / 7) from pk_div (d := 7) (by omega) (by decide) (by decide), Nat.div_div_eq_div_mul, Nat.pow_succ]
    rw [f_X8_wayOf_l19, nI_pred, if_neg (nI_pos (by omega)), show (!decide ((7 : Int32) = 0)) = true from by decide, ck_t, ck_t, ivi_n (show d < 6 by omega) (by decide), ck_t, ck_t, hrem, cl (by omega), upd_s]
    rw [mt, ct, okF, hd] at key
    have hkb : ∀ s b : Int32, ∀ is : Int32, f_X8_wayOf_j160 (nI (x / 7 ^ j)) (nI (mt x j)) (nI (ct x j)) (nI d) z is s (f_X8_wayOf_l19 (nI (hr hs P)) st wm ws k N n) b = f_X8_wayOf_l19 (nI (hr hs P)) st wm ws k N n (nI (x / 7 ^ (j + 1))) (nI (mt x j) ||| s) (nI (ct x j) + b) is (nI d - 1) (upd z d (nI (dg j x))) := fun s b is => by
      unfold f_X8_wayOf_j160
      rw [hrem, hdiv, cl (by omega), less1]
    by_cases e : dg j x = 6
    · rw [if_pos e, if_pos e, decide_eq_true e, Bool.true_or, Bool.and_true, Nat.or_zero, Nat.add_zero] at key
      rw [if_pos (by rw [e]; decide)]
      unfold f_X8_wayOf_j57 f_X8_wayOf_j122 f_X8_wayOf_j118 f_X8_wayOf_j123 f_X8_wayOf_j145
      simp only [if_true, hkb, or_00, Int32.add_zero]
      cases e9 : okF (Ws P hs WL) P (hr hs P) x j with
      | false => rw [e9] at key; exact key
      | true => rw [e9] at key; exact key
    · rw [if_neg e, if_neg e, decide_eq_false e, Bool.false_or] at key
      rw [if_neg (show ¬ (6 : Int32) ≤ nI (dg j x) from nI_ge (b := 6) (by omega) (by decide))]
      have hj : ∀ is : Int32, f_X8_wayOf_j123 (nI (x / 7 ^ j)) (nI (mt x j)) (nI (ct x j)) (nI d) z 1 (f_X8_wayOf_l19 (nI (hr hs P)) st wm ws k N n) is = f_X8_wayOf_l19 (nI (hr hs P)) st wm ws k N n (nI (x / 7 ^ (j + 1))) (nI (mt x j ||| 2 ^ dg j x)) (nI (ct x j + 1)) is (nI d - 1) (upd z d (nI (dg j x))) := fun is => by
        unfold f_X8_wayOf_j123 f_X8_wayOf_j145
        rw [if_neg (by decide), ivi_n (show d < 6 by omega) (by decide), ck_t, if_neg (by decide), hkb, hrem, cl (by omega), upd_s, sh1 _ (by omega), or_nI, nI_1]
      unfold f_X8_wayOf_j57 f_X8_wayOf_j122 f_X8_wayOf_j118
      rw [if_neg (show ¬ (1 : Int32) = 0 by decide)]
      simp only [hj]
      rw [b01]
      cases e9 : okF (Ws P hs WL) P (hr hs P) x j with
      | false =>
        rw [e9, Bool.false_and] at key
        rw [if_neg (by decide)]
        exact key
      | true =>
        rw [e9, Bool.true_and] at key
        rw [if_pos rfl, Int32.zero_add, ivi_n (show d < 25 by omega) (by decide), ck_t, cl (by omega), a3, ivi_n (show d < 6 by omega) (by decide), ck_t, ck_t, hrem, upd_s, andn _ (by omega), has_n N (by have := dif_le (hr hs P) (mt x j); omega) (by omega), b01, dif_bit]
        by_cases e6 : hs d = 6
        · rw [if_pos (show (6 : Int32) ≤ nI (hs d) by rw [e6]; decide)]
          have : Ws P hs WL d = 0 := if_neg (fun q => q.2 e6)
          rw [this, Nat.zero_testBit, Bool.false_and] at key
          exact key
        · rw [if_neg (show ¬ (6 : Int32) ≤ nI (hs d) from nI_ge (b := 6) (by omega) (by decide))]
          by_cases eb : ((hr hs P).testBit (dg j x) && !(mt x j).testBit (dg j x)) = true
          · have hgP : dg j x < P := hr_bit (fun p hp => (h1 p hp).2.1) P (Nat.le_refl P) (Bool.and_eq_true _ _ ▸ eb).1
            have hW : (Ws P hs WL d).testBit (dg j x) = decide (dg j x ∈ WL d) := by
              have : Ws P hs WL d = bset (fun h => decide (h ∈ WL d)) P := if_pos ⟨by omega, e6⟩
              rw [this, bset_bit, decide_eq_true hgP, Bool.true_and]
            rw [eb, hW, Bool.and_true] at key
            rw [if_pos eb, isWanted_e hN hP (show d < P by omega) hgP (l4 d (by omega)) (lP d (by omega)) (cw d (by omega)) (wd d (by omega))]
            by_cases em : dg j x ∈ WL d
            · rw [decide_eq_true em] at key
              rw [if_pos em, if_neg (by decide)]
              exact key
            · rw [decide_eq_false em] at key
              rw [if_neg em, if_pos rfl]
              exact key
          · rw [if_neg eb]
            rw [Bool.not_eq_true] at eb
            rw [eb, Bool.and_false] at key
            exact key
theorem wayOf_e {N : Nat} (hN : 200000 ≤ N) {P x : Nat} (hP : P ≤ 6) (hx : x < 7 ^ P) {hs : Nat → Nat} {WL : Nat → List Nat} {st wm ws : Nat → Int32} (h1 : ∀ p, p < P → hs p ≤ 6 ∧ (hs p ≠ 6 → hs p < P) ∧ st p = nI (hs p)) (l4 : ∀ p, p < P → (WL p).length ≤ 4) (lP : ∀ p, p < P → ∀ h, h ∈ WL p → h < P) (cw : ∀ p, p < P → wm p = nI (WL p).length) (wd : ∀ p, p < P → ∀ k, k < (WL p).length → ws (4 * p + k) = nI ((WL p).getD k 0)) (z : Nat → Int32) : ∃ z', (∀ (ρ : Type) (k : Int32 → (Nat → Int32) → Option ρ), f_X8_wayOf N (nI P) z st wm ws (nI x) (nI (hr hs P)) k = k (nI (vl (Ws P hs WL) P (hr hs P) P x) - 1) z') ∧ ∀ i, i < P → z' (P - 1 - i) = nI (dg i x) := by
  obtain ⟨z', e1, e2⟩ := wayOf_l19 hN hP hx h1 l4 lP cw wd P 0 N z (by omega) (by omega) (fun i hi => absurd hi (by omega))
  refine ⟨z', fun ρ k => ?_, e2⟩
  unfold f_X8_wayOf
  have := e1 ρ (fun y5_e169 y6_e169 z_way_e169 => f_X8_wayOf_e169 k y5_e169 y6_e169 z_way_e169)
  rw [Nat.pow_zero, Nat.div_one] at this
  refine Eq.trans this ?_
  unfold f_X8_wayOf_e169 vl
  rw [b01]
  cases okF (Ws P hs WL) P (hr hs P) x P with
  | false => rfl
  | true => rw [if_pos rfl, if_pos rfl, nI_pred]
theorem could_l110 {P : Nat} (hP : P ≤ 6) (z : Nat → Int32) : ∀ (d i n : Nat) (bw : Nat → Int32), i + d = P → d < n → (∀ q, q < i → bw q = z q) → ∃ bw', (∀ (ρ : Type) (k : (Nat → Int32) → Option ρ), f_X8_could_l110 (nI P) z k n (nI i) bw = k bw') ∧ ∀ q, q < P → bw' q = z q := by
  intro d
  induction d with
  | zero =>
    intro i n bw h hn hb
    obtain ⟨n, rfl⟩ := succ_of hn
    obtain rfl : i = P := by omega
    exact ⟨bw, fun ρ k => by rw [f_X8_could_l110, if_pos (nI_le (Nat.le_refl _) (by omega))], hb⟩
  | succ d ih =>
    intro i n bw h hn hb
    obtain ⟨n, rfl⟩ := succ_of hn
    obtain ⟨bw', e1, e2⟩ := ih (i + 1) n (upd bw i (z i)) (by omega) (by omega) (fun q hq => by
      by_cases e : q = i
      · subst e; rw [upd_s]
      · rw [upd_n e]; exact hb q (by omega))
    refine ⟨bw', fun ρ k => ?_, e2⟩
    rw [f_X8_could_l110, if_neg (nI_ge (by omega) (by omega)), ivi_n (show i < 6 by omega) (by decide), ck_t, ck_t, cl (by omega), nI_1]
    exact e1 ρ k
theorem cmp1 : ∀ a, a < 8 → ∀ b, b < 8 → (nI a - 1 ≤ nI b - 1 ↔ a ≤ b) := by decide +kernel
theorem vl_le (W : Nat → Nat) (P f x : Nat) : vl W P f P x ≤ P + 1 := by
  have := ct_le x P
  unfold vl
  split <;> omega
theorem could_l81 {N : Nat} (hN : 200000 ≤ N) {P : Nat} (hP : P ≤ 6) {hs : Nat → Nat} {WL : Nat → List Nat} {st wm ws : Nat → Int32} (h1 : ∀ p, p < P → hs p ≤ 6 ∧ (hs p ≠ 6 → hs p < P) ∧ st p = nI (hs p)) (l4 : ∀ p, p < P → (WL p).length ≤ 4) (lP : ∀ p, p < P → ∀ h, h ∈ WL p → h < P) (cw : ∀ p, p < P → wm p = nI (WL p).length) (wd : ∀ p, p < P → ∀ k, k < (WL p).length → ws (4 * p + k) = nI ((WL p).getD k 0)) : ∀ (d i n m b : Nat) (z bw : Nat → Int32), i + d = 7 ^ P → d < n → m < 8 → IsB (vl (Ws P hs WL) P (hr hs P) P) i m b → (0 < m → ∀ q, q < P → bw q = nI (dg (P - 1 - q) b)) → ∃ z' bw', (∀ (ρ : Type) (k : Int32 → (Nat → Int32) → (Nat → Int32) → Option ρ), f_X8_could_l81 (nI P) st wm ws (nI (hr hs P)) (nI (7 ^ P)) k N n (nI m - 1) (nI i) z bw = k (nI (bs (Ws P hs WL) P P (hr hs P))) z' bw') ∧ ∀ q, q < P → bw' q = nI (dg (P - 1 - q) (gr (Ws P hs WL) P P (hr hs P))) := by
  have h7 : (7 : Nat) ^ P ≤ 7 ^ 6 := Nat.pow_le_pow_right (by decide) hP
  intro d
  induction d with
  | zero =>
    intro i n m b z bw h hn hm hB hbw
    obtain ⟨n, rfl⟩ := succ_of hn
    obtain rfl : i = 7 ^ P := by omega
    obtain ⟨g1, g2⟩ := IsB_end hB
    refine ⟨z, bw, fun ρ k => ?_, fun q hq => by rw [hbw (by omega) q hq, g2]⟩
    rw [f_X8_could_l81, if_pos (nI_le (Nat.le_refl _) (by omega)), g1, nI_pred]
  | succ d ih =>
    intro i n m b z bw h hn hm hB hbw
    obtain ⟨n, rfl⟩ := succ_of hn
    obtain ⟨z1, e1, e2⟩ := wayOf_e hN hP (show i < 7 ^ P by omega) h1 l4 lP cw wd z
    have hv := vl_le (Ws P hs WL) P (hr hs P) i
    have hc := cmp1 (vl (Ws P hs WL) P (hr hs P) P i) (by omega) m hm
    by_cases e : vl (Ws P hs WL) P (hr hs P) P i ≤ m
    · obtain ⟨z', bw', f1, f2⟩ := ih (i + 1) n m b z1 bw (by omega) (by omega) hm (IsB_no hB e) hbw
      refine ⟨z', bw', fun ρ k => ?_, f2⟩
      rw [f_X8_could_l81, if_neg (nI_ge (by omega) (by omega)), e1, if_pos (hc.mpr e), nI_1]
      exact f1 ρ k
    · obtain ⟨bw1, c1, c2⟩ := could_l110 hP z1 P 0 N bw (by omega) (by omega) (fun q hq => absurd hq (by omega))
      obtain ⟨z', bw', f1, f2⟩ := ih (i + 1) n (vl (Ws P hs WL) P (hr hs P) P i) i z1 bw1 (by omega) (by omega) (by omega) (IsB_up hB (by omega)) (fun _ q hq => by
        rw [c2 q hq]
        have := e2 (P - 1 - q) (by omega)
        rw [show P - 1 - (P - 1 - q) = q by omega] at this
        exact this)
      refine ⟨z', bw', fun ρ k => ?_, f2⟩
      rw [f_X8_could_l81, if_neg (nI_ge (by omega) (by omega)), e1, if_neg (fun q => e (hc.mp q))]
      refine (c1 ρ _).trans ?_
      unfold f_X8_could_e139
      rw [nI_1]
      exact f1 ρ k
theorem lt_m1 {x : Int32} (h : x < 0) (h1 : ¬ x = -1) : x < -1 := by
  rw [Int32.lt_iff_toInt_lt] at *
  have e0 : (0 : Int32).toInt = 0 := by decide
  have e1 : (-1 : Int32).toInt = -1 := by decide
  have : x.toInt ≠ -1 := fun q => h1 (Int32.toInt_inj.mp (by rw [q, e1]))
  omega
set_option maxHeartbeats 2000000 in
theorem st_could {N : Nat} (hN : 200000 ≤ N) : St_could N Rel := by
  intro x_told x_marks xs_length xs_place xs_tokenPlace xs_token xs_value xs_lawTold xsd_size xsd_law xsd_weight xsd_nights xsd_wanted xsd_wantCount xsd_wantBits xs_letters xp_size xp_law xp_weight xp_nights xp_wanted xp_wantCount xp_wantBits xh_bitCount xh_given xh_made xh_gone xh_law xh_has xh_left xh_bits xy_next xy_known xyr_has xyr_left xyr_bits xyr_bitCount xyr_given xyr_made xyr_gone xyr_law x_kept xk_left xk_lumpCount xk_ringed xk_gave xk_giver xk_aims xk_got xk_lumps xg_hours xg_best xu_sums xu_hours x_toldSet x_toldWho x_toldHour xm_has xm_left xm_bits xm_bitCount xm_given xm_made xm_gone xm_law m_people m_known m_toldMany m_trace m_texted m_cursor m_start m_token m_number m_isWrong m_items m_saidPeople m_saidLaw m_ringed m_lumps m_weight m_wants m_wantsMany m_st m_was m_images m_isKept m_told m_text m_saidWeight m_saidNights m_saidWants m_saidMany m_now m_gave m_at m_way m_bestWay m_made a1 hR
  obtain ⟨P, WL, WT, ht, hp, ha, hy, hi, ho, hm, hg⟩ := hR
  have hp' := hp
  have ha' := ha
  obtain ⟨hP, rfl, rfl, hw, hl⟩ := hp
  obtain ⟨hs, lf, bt, g, c, n, w, b1, b2, b3, b4, ⟨g1, g2, g3, g4⟩, ⟨c1, c2, c3, c4⟩, b7, ⟨n1, n2, n3⟩, ⟨w1, w2, w3⟩⟩ := ha
  have hH := hr_lt (fun p hp => (b1 p hp).1) P (Nat.le_refl P)
  have hM := Rp_HM hp'
  have q1 : ∀ p, p < P → hs p ≤ 6 ∧ xh_has p = (if hs p = 6 then -9 else nI (hs p)) := fun p hp => ⟨(b1 p hp).1, (b1 p hp).2.2.1⟩
  have q2 : ∀ p, p < P → xp_wantBits p = nI (bset (fun h => decide (h ∈ WL p)) P) := fun p hp => (hl p hp).2.2.2.2.2.1
  obtain ⟨best', e1, e2, e3⟩ := weigh_e hN hP (WL := WL) (fun p hp => ⟨(b1 p hp).1, (b1 p hp).2.1, (b1 p hp).2.2.1⟩) q2 (fun p h1 h2 => (b3 p h1 h2).1) hg
  obtain ⟨z', bw', f1, f2⟩ := could_l81 hN hP (WL := WL) (fun p hp => ⟨(b1 p hp).1, (b1 p hp).2.1, (b1 p hp).2.2.2⟩) hM.l4 hM.lP hM.cw hM.wd (7 ^ P) 0 N 0 0 m_way m_bestWay (by omega) (by have : (7 : Nat) ^ P ≤ 7 ^ 6 := Nat.pow_le_pow_right (by decide) hP; omega) (by decide) (IsB_0 _ 0) (fun h => absurd h (by omega))
  have hl23 := fun (ρ : Type) (k : Int32 → Int32 → Option ρ) => couldM_l23 hP (fun p hp => ⟨(b1 p hp).1, (b1 p hp).2.2.2⟩) k P 0 N (by omega) (by omega)
  have f1' : ∀ (ρ : Type) (k : Int32 → (Nat → Int32) → (Nat → Int32) → Option ρ), f_X8_could_l81 (nI P) m_st m_wantsMany m_wants (nI (hr hs P)) (nI (7 ^ P)) k N N (-1) 0 m_way m_bestWay = k (nI (bs (Ws P hs WL) P P (hr hs P))) z' bw' := f1
  have hl23' : ∀ (ρ : Type) (k : Int32 → Int32 → Option ρ), f_X8_could_l23 (nI P) m_st k N 0 1 0 = k (nI (hr hs P)) (nI (7 ^ P)) := hl23
  by_cases hx : a1 = -1
  · subst hx
    refine ⟨_, _, _, _, _, (?_ : _ = some (nI (bs (Ws P hs WL) P P (hr hs P)), nI (hr hs P), best')), (?_ : _ = some (_, z', bw')), P, WL, WT, ht, hp', ha', hy, hi, ho, hm, e3⟩
    · unfold f_X7_could f_X7_could_j18 f_X5_mostServed
      rw [if_pos rfl]
      refine (e1 _ _).trans ?_
      rw [if_pos rfl, show ivi (0 : Int32) 7 = true from by decide, ck_t, ivi_n hH (by decide), ck_t, cl (by omega), show ((0 : Int32)).toNatClampNeg = 0 from rfl, e2 0 _ (by omega) hH (sub_self _), Nat.sub_zero]
    · unfold f_X8_could
      rw [in_w, within_yes N (by decide) (by
        rcases Nat.eq_zero_or_pos P with h | h
        · rw [h]; decide
        · rw [nI_sub1 h]
          exact fun q => absurd (Int32.lt_trans q (show (-1 : Int32) < 0 by decide)) (nI_pos (by omega))), if_neg (by decide)]
      refine (hl23' _ _).trans ?_
      unfold f_X8_could_e75
      refine (f1' _ _).trans ?_
      unfold f_X8_could_e145
      rw [if_neg (by decide)]
  · rcases pk_ix a1 (show P < 2 ^ 31 by omega) with h | h | ⟨p, h, rfl⟩
    · refine ⟨_, _, _, _, _, (?_ : _ = some ((-1 : Int32), xg_hours, xg_best)), (?_ : _ = some (_, m_way, m_bestWay)), P, WL, WT, ht, hp', ha', hy, hi, ho, hm, hg⟩
      · unfold f_X7_could
        rw [if_neg hx, knows_no N (Or.inl h), if_pos rfl]
      · unfold f_X8_could
        rw [in_w, within_no N (Or.inl (lt_m1 h hx)), if_pos rfl]
    · refine ⟨_, _, _, _, _, (?_ : _ = some ((-1 : Int32), xg_hours, xg_best)), (?_ : _ = some (_, m_way, m_bestWay)), P, WL, WT, ht, hp', ha', hy, hi, ho, hm, hg⟩
      · unfold f_X7_could
        rw [if_neg hx, knows_no N (Or.inr h), if_pos rfl]
      · unfold f_X8_could
        have h2 : nI P - 1 < a1 := by
          rcases Nat.eq_zero_or_pos P with rfl | hp
          · exact Int32.lt_of_lt_of_le (by decide) h
          · rw [nI_sub1 hp]
            exact Int32.lt_of_lt_of_le (nI_lt (by omega) (by omega)) h
        rw [in_w, within_no N (Or.inr h2), if_pos rfl]
    · refine ⟨_, _, _, _, _, (?_ : _ = some (enc9 (chs (Ws P hs WL) P (P - 1 - p) (fr (Ws P hs WL) P (hr hs P) p)), nI (hr hs P), best')), (?_ : _ = some (_, z', bw')), P, WL, WT, ht, hp', ha', hy, hi, ho, hm, e3⟩
      · unfold f_X7_could f_X7_could_j18 f_X5_hourOf
        rw [if_neg hx, knows_yes N (by omega) h, if_neg (by decide)]
        refine (e1 _ _).trans ?_
        rw [if_neg hx]
        exact hourOf_l13 hN hP h hH q1 q2 e2 _ (p + 1) 0 N (-9) (by omega) (by omega) (fun e => absurd e (by omega))
      · unfold f_X8_could
        rw [in_w, within_yes N (fun q => absurd (Int32.lt_trans q (show (-1 : Int32) < 0 by decide)) (nI_pos (by omega))) (by rw [nI_sub1 (by omega)]; exact nI_nlt (by omega) (by omega)), if_neg (by decide)]
        refine (hl23' _ _).trans ?_
        unfold f_X8_could_e75
        refine (f1' _ _).trans ?_
        have hc := chs_le (Ws P hs WL) P (P - 1 - p) (fr (Ws P hs WL) P (hr hs P) p)
        unfold f_X8_could_e145 enc9
        rw [if_pos (nI_pos' (by omega)), ivi_n (show p < 6 by omega) (by decide), ck_t, ck_t, cl (by omega), f2 p h, way_dg h]
        generalize chs (Ws P hs WL) P (P - 1 - p) (fr (Ws P hs WL) P (hr hs P) p) = c at *
        by_cases e6 : c = 6
        · rw [if_pos (by rw [e6]; rfl), if_pos e6]
        · rw [if_neg (show ¬ nI c = (6 : Int32) from fun q => e6 (inj_n (b := 6) (by omega) (by decide) q)), if_neg e6]

