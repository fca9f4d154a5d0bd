/-! 29.stop: parts in least terms, when to stop -/
theorem gcd_step {a b : Nat} : Nat.gcd a b = Nat.gcd b (a % b) := by
  rw [Nat.gcd_comm a b, Nat.gcd_rec b a, Nat.gcd_comm]
theorem mod_half {b r m : Nat} (h0 : 0 < r) (h1 : r ≤ b) (hb : b < 2 ^ (m + 1)) : b % r < 2 ^ m := by
  have h2 := Nat.mod_lt b h0
  have h3 := Nat.div_add_mod b r
  have h4 : 1 ≤ b / r := (Nat.le_div_iff_mul_le h0).mpr (by omega)
  have h5 : r * 1 ≤ r * (b / r) := Nat.mul_le_mul_left r h4
  have h6 : 2 ^ (m + 1) = 2 * 2 ^ m := by rw [Nat.pow_succ]; omega
  omega
theorem euX {ρ : Type} (k : Int32 → Option ρ) : ∀ (m a b s n : Nat), a < 2 ^ 31 → b < 2 ^ 31 → b < 2 ^ m → s + 2 * m ≤ 64 → 2 * m < n → f_X7_greatestDivisor_l7 k n (nI a) (nI b) (nI s) = k (nI (Nat.gcd a b)) := by
  intro m
  induction m with
  | zero =>
    intro a b s n ha hb h1 h2 hn
    obtain ⟨n, rfl⟩ := succ_of hn
    obtain rfl : b = 0 := by omega
    rw [f_X7_greatestDivisor_l7, Nat.gcd_zero_right, if_pos (show nI 0 = (0 : Int32) from rfl)]
    split <;> rfl
  | succ m ih =>
    intro a b s n ha hb h1 h2 hn
    obtain ⟨n, rfl⟩ := succ_of hn
    rw [f_X7_greatestDivisor_l7, if_neg (show ¬ (64 : Int32) ≤ nI s from nI_ge (b := 64) (by omega) (by omega))]
    rcases Nat.eq_zero_or_pos b with rfl | hb0
    · rw [Nat.gcd_zero_right, if_pos (show nI 0 = (0 : Int32) from rfl)]
    have hne := nI_ne0 hb0 hb
    have hr := Nat.mod_lt a hb0
    rw [if_neg hne, decide_eq_false hne, Bool.not_false, ck_t, pk_rem ha hb0 hb, nI_1, gcd_step]
    obtain ⟨n, rfl⟩ := succ_of (show 0 < n by omega)
    rw [f_X7_greatestDivisor_l7, if_neg (show ¬ (64 : Int32) ≤ nI (s + 1) from nI_ge (b := 64) (by omega) (by omega))]
    rcases Nat.eq_zero_or_pos (a % b) with e | hr0
    · rw [e, Nat.gcd_zero_right, if_pos (show nI 0 = (0 : Int32) from rfl)]
    have hne2 := nI_ne0 hr0 (by omega)
    have hh := mod_half hr0 (by omega) h1
    rw [if_neg hne2, decide_eq_false hne2, Bool.not_false, ck_t, pk_rem hb hr0 (by omega), nI_1, gcd_step]
    exact ih (a % b) (b % (a % b)) (s + 1 + 1) n (by omega) (by have := Nat.mod_lt b hr0; omega) hh (by omega) (by omega)
theorem euM {ρ : Type} (k : Int32 → Option ρ) : ∀ (m a b n : Nat), a < 2 ^ 31 → b < 2 ^ 31 → b < 2 ^ m → 2 * m < n → f_X8_lowest_l5 k n (nI a) (nI b) = k (nI (Nat.gcd a b)) := by
  intro m
  induction m with
  | zero =>
    intro a b n ha hb h1 hn
    obtain ⟨n, rfl⟩ := succ_of hn
    obtain rfl : b = 0 := by omega
    rw [f_X8_lowest_l5, Nat.gcd_zero_right, if_pos (show nI 0 ≤ (0 : Int32) from by decide)]
  | succ m ih =>
    intro a b n ha hb h1 hn
    obtain ⟨n, rfl⟩ := succ_of hn
    rw [f_X8_lowest_l5]
    rcases Nat.eq_zero_or_pos b with rfl | hb0
    · rw [Nat.gcd_zero_right, if_pos (show nI 0 ≤ (0 : Int32) from by decide)]
    have hne := nI_ne0 hb0 hb
    have hr := Nat.mod_lt a hb0
    rw [if_neg (nI_nle hb0 hb), decide_eq_false hne, Bool.not_false, ck_t, pk_rem ha hb0 hb, gcd_step]
    obtain ⟨n, rfl⟩ := succ_of (show 0 < n by omega)
    rw [f_X8_lowest_l5]
    rcases Nat.eq_zero_or_pos (a % b) with e | hr0
    · rw [e, Nat.gcd_zero_right, if_pos (show nI 0 ≤ (0 : Int32) from by decide)]
    have hne2 := nI_ne0 hr0 (by omega)
    have hh := mod_half hr0 (by omega) h1
    rw [if_neg (nI_nle hr0 (by omega)), decide_eq_false hne2, Bool.not_false, ck_t, pk_rem hb hr0 (by omega), gcd_step]
    exact ih (a % b) (b % (a % b)) n (by omega) (by have := Nat.mod_lt b hr0; omega) hh (by omega)
/-- the two ways to the least terms answer the same -/
def lowT (a b : Nat) (w : Int32) : Int32 := if w = 0 then nI a / nI (Nat.gcd a b) else nI b / nI (Nat.gcd a b)
theorem gcd_lt {a b : Nat} (hb : 0 < b) (h : b < 2 ^ 31) : 0 < Nat.gcd a b ∧ Nat.gcd a b < 2 ^ 31 :=
  ⟨Nat.gcd_pos_of_pos_right _ hb, Nat.lt_of_le_of_lt (Nat.le_of_dvd hb (Nat.gcd_dvd_right a b)) h⟩
theorem part_e {ρ : Type} {N : Nat} (hN : 200000 ≤ N) {a b : Nat} (ha : a < 2 ^ 31) (hb : b < 2 ^ 31) (hb0 : 0 < b) (w : Int32) (k : Int32 → Option ρ) : f_X7_part N (nI a) (nI b) w k = k (lowT a b w) := by
  unfold f_X7_part f_X7_greatestDivisor f_X7_greatestDivisor_e34
  obtain ⟨h1, h2⟩ := gcd_lt (a := a) hb0 hb
  rw [show (0 : Int32) = nI 0 from rfl, euX _ 31 a b 0 N ha hb (by omega) (by omega) (by omega)]
  have e : (if (1 : Int32) < nI (Nat.gcd a b) then nI (Nat.gcd a b) else 1) = nI (Nat.gcd a b) := by
    by_cases h : (1 : Int32) < nI (Nat.gcd a b)
    · rw [if_pos h]
    · rw [if_neg h]
      have : ¬ 1 < Nat.gcd a b := fun h3 => h (nI_lt (a := 1) h3 h2)
      rw [show Nat.gcd a b = 1 by omega]; rfl
  dsimp only
  rw [e, show nI 0 = (0 : Int32) from rfl, decide_eq_false (nI_ne0 h1 h2), Bool.not_false, ck_t, ck_t]
  unfold lowT
  split <;> rfl
theorem lowest_e {ρ : Type} {N : Nat} (hN : 200000 ≤ N) {a b : Nat} (ha : a < 2 ^ 31) (hb : b < 2 ^ 31) (hb0 : 0 < b) (w : Int32) (k : Int32 → Option ρ) : f_X8_lowest N (nI a) (nI b) w k = k (lowT a b w) := by
  unfold f_X8_lowest f_X8_lowest_e26
  obtain ⟨h1, h2⟩ := gcd_lt (a := a) hb0 hb
  rw [euM _ 31 a b N ha hb (by omega) (by omega)]
  rw [decide_eq_false (nI_ne0 h1 h2), Bool.not_false, ck_t, ck_t]
  unfold lowT
  split <;> rfl
/-- both ways come to the same last pair -/
theorem stop_l {ρ σ : Type} {n : Nat} (hn : n ≤ 5) (x v c : Int32) : ∀ (d i f1 f2 a b : Nat), i + d = n → d < f1 → d < f2 → a < 2 ^ 31 → b = 10 ^ i → ∃ a' , a' < 2 ^ 31 ∧ (∀ k : Int32 → Int32 → Option ρ, f_X7_stop_l63 (nI n) x v c k f1 (nI a) (nI b) (nI (i + 1)) = k (nI a') (nI (10 ^ n))) ∧ (∀ k : Int32 → Int32 → Option σ, f_X8_stop_l61 (nI n) x v c k f2 (nI a) (nI b) (nI i) = k (nI a') (nI (10 ^ n))) := by
  intro d
  induction d with
  | zero =>
    intro i f1 f2 a b h1 h2 h3 ha hb
    obtain ⟨f1, rfl⟩ := succ_of h2
    obtain ⟨f2, rfl⟩ := succ_of h3
    obtain rfl : i = n := by omega
    subst hb
    exact ⟨a, ha, fun k => by rw [f_X7_stop_l63, if_pos (nI_lt (by omega) (by omega))], fun k => by rw [f_X8_stop_l61, if_pos (nI_le (Nat.le_refl _) (by omega))]⟩
  | succ d ih =>
    intro i f1 f2 a b h1 h2 h3 ha hb
    obtain ⟨f1, rfl⟩ := succ_of h2
    obtain ⟨f2, rfl⟩ := succ_of h3
    have e : ((((x * v) * nI b) + (((10 : Int32) - x) * nI a)) - ((c * 10) * nI b)) = ((((x * v) - ((10 : Int32) * c)) * nI b) + (((10 : Int32) - x) * nI a)) := by
      simp only [Int32.sub_eq_add_neg, Int32.add_mul, Int32.neg_mul]
      rw [Int32.mul_comm c 10]
      ac_rfl
    have hb10 : nI b * 10 = nI (10 ^ (i + 1)) := by rw [hb, Nat.pow_succ]; exact pk_mul _ 10
    by_cases hz : 0 ≤ ((((x * v) - ((10 : Int32) * c)) * nI b) + (((10 : Int32) - x) * nI a))
    · obtain ⟨a1, ha1, e1⟩ := nI_of (Int32.not_lt.mpr hz)
      obtain ⟨a', q1, q2, q3⟩ := ih (i + 1) f1 f2 a1 (10 ^ (i + 1)) (by omega) (by omega) (by omega) ha1 rfl
      refine ⟨a', q1, fun k => ?_, fun k => ?_⟩
      · rw [f_X7_stop_l63, if_neg (nI_nlt (by omega) (by omega)), e, hb10, nI_1]
        have : (if (0 : Int32) < ((((x * v) - ((10 : Int32) * c)) * nI b) + (((10 : Int32) - x) * nI a)) then ((((x * v) - ((10 : Int32) * c)) * nI b) + (((10 : Int32) - x) * nI a)) else 0) = nI a1 := by
          by_cases hz1 : (0 : Int32) < ((((x * v) - ((10 : Int32) * c)) * nI b) + (((10 : Int32) - x) * nI a))
          · rw [if_pos hz1, e1]
          · rw [if_neg hz1, ← e1]
            exact Int32.le_antisymm hz (Int32.not_lt.mp hz1)
        rw [this]
        exact q2 k
      · rw [f_X8_stop_l61, if_neg (nI_ge (by omega) (by omega)), if_pos hz, f_X8_stop_j100, hb10, nI_1, e1]
        exact q3 k
    · obtain ⟨a', q1, q2, q3⟩ := ih (i + 1) f1 f2 0 (10 ^ (i + 1)) (by omega) (by omega) (by omega) (by decide) rfl
      refine ⟨a', q1, fun k => ?_, fun k => ?_⟩
      · rw [f_X7_stop_l63, if_neg (nI_nlt (by omega) (by omega)), e, hb10, nI_1, if_neg (fun h => hz (Int32.le_of_lt h))]
        exact q2 k
      · rw [f_X8_stop_l61, if_neg (nI_ge (by omega) (by omega)), if_neg hz, f_X8_stop_j100, hb10, nI_1]
        exact q3 k
set_option maxHeartbeats 2000000 in
theorem st_stop {N : Nat} (hN : 200000 ≤ N) : St_stop N Rel := by
  intro x_told x_marks xs_length xs_place xs_tokenPlace xs_token xs_value xs_lawTold xsd_size xsd_law xsd_weight xsd_nights xsd_wanted xsd_wantCount xsd_wantBits xs_letters xp_size xp_law xp_weight xp_nights xp_wanted xp_wantCount xp_wantBits xh_bitCount xh_given xh_made xh_gone xh_law xh_has xh_left xh_bits xy_next xy_known xyr_has xyr_left xyr_bits xyr_bitCount xyr_given xyr_made xyr_gone xyr_law x_kept xk_left xk_lumpCount xk_ringed xk_gave xk_giver xk_aims xk_got xk_lumps xg_hours xg_best xu_sums xu_hours x_toldSet x_toldWho x_toldHour xm_has xm_left xm_bits xm_bitCount xm_given xm_made xm_gone xm_law m_people m_known m_toldMany m_trace m_texted m_cursor m_start m_token m_number m_isWrong m_items m_saidPeople m_saidLaw m_ringed m_lumps m_weight m_wants m_wantsMany m_st m_was m_images m_isKept m_told m_text m_saidWeight m_saidNights m_saidWants m_saidMany m_now m_gave m_at m_way m_bestWay m_made a1 a2 a3 a4 a5 hR
  obtain ⟨P, WL, WT, ht, hp, ha, hy, hi, ho, hm, hg⟩ := hR
  unfold f_X7_stop f_X8_stop
  simp only [in_w]
  rcases win a1 (b := 5) (n := 5) rfl (by decide) with h1 | ⟨n, hn, rfl, u1, u2⟩
  · rw [within_no N h1, within_no N h1, if00, if00]
    exact ⟨_, rfl, rfl, P, WL, WT, ht, hp, ha, hy, hi, ho, hm, hg⟩
  rw [within_yes N u1 u2, within_yes N u1 u2, if10, if10]
  rcases win a2 (b := 10) (n := 10) rfl (by decide) with h1 | ⟨x, hx, rfl, v1, v2⟩
  · rw [within_no N h1, within_no N h1, if00, if00]
    exact ⟨_, rfl, rfl, P, WL, WT, ht, hp, ha, hy, hi, ho, hm, hg⟩
  rw [within_yes N v1 v2, within_yes N v1 v2, if10, if10]
  rcases win a5 (b := 1) (n := 1) rfl (by decide) with h5 | ⟨z5, hz5, rfl, w1, w2⟩
  · rw [within_no N h5, if00]
    rcases win a3 (b := 99) (n := 99) rfl (by decide) with h3 | ⟨z3, hz3, rfl, s1, s2⟩
    · rw [within_no N h3, if00]
      exact ⟨_, rfl, rfl, P, WL, WT, ht, hp, ha, hy, hi, ho, hm, hg⟩
    rw [within_yes N s1 s2, if10]
    rcases win a4 (b := 99) (n := 99) rfl (by decide) with h4 | ⟨z4, hz4, rfl, t1, t2⟩
    · rw [within_no N h4, if00]
      exact ⟨_, rfl, rfl, P, WL, WT, ht, hp, ha, hy, hi, ho, hm, hg⟩
    rw [within_yes N t1 t2, if10, within_no N h5, if00]
    exact ⟨_, rfl, rfl, P, WL, WT, ht, hp, ha, hy, hi, ho, hm, hg⟩
  rw [within_yes N w1 w2, if10]
  rcases win a3 (b := 99) (n := 99) rfl (by decide) with h3 | ⟨z3, hz3, rfl, s1, s2⟩
  · rw [within_no N h3, within_no N h3, if00, if00]
    exact ⟨_, rfl, rfl, P, WL, WT, ht, hp, ha, hy, hi, ho, hm, hg⟩
  rw [within_yes N s1 s2, within_yes N s1 s2, if10, if10]
  rcases win a4 (b := 99) (n := 99) rfl (by decide) with h4 | ⟨z4, hz4, rfl, t1, t2⟩
  · rw [within_no N h4, within_no N h4, if00, if00]
    exact ⟨_, rfl, rfl, P, WL, WT, ht, hp, ha, hy, hi, ho, hm, hg⟩
  rw [within_yes N t1 t2, within_yes N t1 t2, if10, if10, within_yes N w1 w2, if10]
  have hpow : 0 < 10 ^ n ∧ 10 ^ n < 2 ^ 31 := ⟨Nat.pow_pos (by decide), Nat.lt_of_le_of_lt (Nat.pow_le_pow_right (by decide) hn) (by decide)⟩
  obtain ⟨a', q1, q2, q3⟩ := stop_l (n := n) hn (nI x) (nI z3) (nI z4) n 0 N N 0 1 (by omega) (by omega) (by omega) (by decide) rfl
  exact ⟨_, (q2 _).trans (part_e hN q1 hpow.2 hpow.1 _ _), (q3 _).trans (lowest_e hN q1 hpow.2 hpow.1 _ _), P, WL, WT, ht, hp, ha, hy, hi, ho, hm, hg⟩

