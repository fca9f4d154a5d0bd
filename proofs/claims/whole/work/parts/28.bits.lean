/-! 28.bits: sums of bits; joins -/
/-- the minutes of a set of the first n bits -/
def sumB (bt : Nat → Nat) (s : Nat) : Nat → Nat
  | 0 => 0
  | n + 1 => sumB bt s n + (if s.testBit n then bt n else 0)
theorem sumB_le {bt : Nat → Nat} {s : Nat} : ∀ {n : Nat}, (∀ k, k < n → bt k ≤ 60) → sumB bt s n ≤ 60 * n
  | 0, _ => Nat.le_refl 0
  | n + 1, h => by
    have h1 := sumB_le (s := s) (fun k hk => h k (by omega) : ∀ k, k < n → bt k ≤ 60)
    have h2 := h n (by omega)
    rw [sumB]
    split <;> omega
theorem minutes_l4 {ρ : Type} (N : Nat) {c s : Nat} (hc : c ≤ 8) (hs : s < 2 ^ 31) {bt : Nat → Nat} {bits : Nat → Int32} (hb : ∀ k, k < c → bits k = nI (bt k)) (k : Int32 → Option ρ) : ∀ (d i n : Nat), i + d = c → d < n → f_X0_minutes_l4 (nI s) (nI c) bits k N n (nI (sumB bt s i)) (nI i) = k (nI (sumB bt s c)) := by
  intro d
  induction d with
  | zero =>
    intro i n h hn
    obtain ⟨n, rfl⟩ := succ_of hn
    obtain rfl : i = c := by omega
    rw [f_X0_minutes_l4, if_pos (nI_le (Nat.le_refl _) (by omega))]
  | succ d ih =>
    intro i n h hn
    obtain ⟨n, rfl⟩ := succ_of hn
    have key := ih (i + 1) n (by omega) (by omega)
    rw [f_X0_minutes_l4, if_neg (nI_ge (by omega) (by omega)), holds_n N hs (by omega), b01, nI_1, ivi_n (show i < 8 by omega) (by decide), ck_t, cl (by omega), hb i (by omega), nI_add]
    rw [sumB] at key
    cases ht : s.testBit i with
    | false => simpa [ht] using key
    | true => simpa [ht] using key
theorem minutes_e {ρ : Type} {N : Nat} (hN : 200000 ≤ N) {c s : Nat} (hc : c ≤ 8) (hs : s < 2 ^ 31) {bt : Nat → Nat} {bits : Nat → Int32} (hb : ∀ k, k < c → bits k = nI (bt k)) (k : Int32 → Option ρ) : f_X0_minutes N (nI c) bits (nI s) k = k (nI (sumB bt s c)) := minutes_l4 N hc hs hb k c 0 N (by omega) (by omega)
theorem sumOf_l4 {ρ : Type} (N : Nat) {c s : Nat} (hc : c ≤ 8) (hs : s < 2 ^ 31) {bt : Nat → Nat} {st : Nat → Int32} (h13 : st 13 = nI c) (hb : ∀ k, k < c → st (14 + k) = nI (bt k)) (k : Int32 → Option ρ) : ∀ (d i n : Nat), i + d = c → d < n → f_X8_sumOf_l4 (nI s) st k N n (nI (sumB bt s i)) (nI i) = k (nI (sumB bt s c)) := by
  intro d
  induction d with
  | zero =>
    intro i n h hn
    obtain ⟨n, rfl⟩ := succ_of hn
    obtain rfl : i = c := by omega
    rw [f_X8_sumOf_l4, i13, ck_t, c13, h13, if_pos (nI_le (Nat.le_refl _) (by omega))]
  | succ d ih =>
    intro i n h hn
    obtain ⟨n, rfl⟩ := succ_of hn
    have key := ih (i + 1) n (by omega) (by omega)
    rw [f_X8_sumOf_l4, i13, ck_t, c13, h13, if_neg (nI_ge (by omega) (by omega)), has_n N hs (by omega), b01, show (14 : Int32) + nI i = nI (14 + i) from nI_add 14 i, ivi_n (show 14 + i < 25 by omega) (by decide), ck_t, cl (by omega), hb i (by omega)]
    unfold f_X8_sumOf_j37
    rw [nI_1, nI_add, Int32.add_zero]
    rw [sumB] at key
    cases ht : s.testBit i with
    | false => simpa [ht] using key
    | true => simpa [ht] using key
theorem sumOf_e {ρ : Type} {N : Nat} (hN : 200000 ≤ N) {c s : Nat} (hc : c ≤ 8) (hs : s < 2 ^ 31) {bt : Nat → Nat} {st : Nat → Int32} (h13 : st 13 = nI c) (hb : ∀ k, k < c → st (14 + k) = nI (bt k)) (k : Int32 → Option ρ) : f_X8_sumOf N st (nI s) k = k (nI (sumB bt s c)) := sumOf_l4 N hc hs h13 hb k c 0 N (by omega) (by omega)
/-- what stays of the bits: how many, and which, when the first k have been looked at -/
def dj (s : Nat) : Nat → Nat
  | 0 => 0
  | k + 1 => dj s k + (if s.testBit k then 0 else 1)
def updN (f : Nat → Nat) (i v : Nat) : Nat → Nat := fun j => if j = i then v else f j
def db (bt : Nat → Nat) (s : Nat) : Nat → Nat → Nat
  | 0 => bt
  | k + 1 => if s.testBit k then db bt s k else updN (db bt s k) (dj s k) (db bt s k k)
theorem dj_le (s : Nat) : ∀ k, dj s k ≤ k
  | 0 => Nat.le_refl 0
  | k + 1 => by
    have := dj_le s k
    rw [dj]
    split <;> omega
theorem db_ok (bt : Nat → Nat) (s : Nat) {c : Nat} (h : ∀ i, i < c → 1 ≤ bt i ∧ bt i ≤ 60) : ∀ k, k ≤ c → ∀ i, i < c → 1 ≤ db bt s k i ∧ db bt s k i ≤ 60
  | 0, _, i, hi => h i hi
  | k + 1, hk, i, hi => by
    rw [db]
    split
    · exact db_ok bt s h k (by omega) i hi
    · unfold updN
      split
      · exact db_ok bt s h k (by omega) k (by omega)
      · exact db_ok bt s h k (by omega) i hi
theorem drop_l4 {N : Nat} {c s : Nat} (hc : c ≤ 8) (hs : s < 2 ^ 31) {bt : Nat → Nat} : ∀ (d i n : Nat) (z : Nat → Int32), i + d = c → d < n → (∀ k, k < c → z k = nI (db bt s i k)) → ∃ z', (∀ (ρ : Type) (k : Int32 → (Nat → Int32) → Option ρ), f_X0_dropBits_l4 (nI s) (nI c) k N n (nI (dj s i)) (nI i) z = k (nI (dj s c)) z') ∧ ∀ k, k < c → z' k = nI (db bt s c k) := by
  intro d
  induction d with
  | zero =>
    intro i n z h hn hz
    obtain ⟨n, rfl⟩ := succ_of hn
    obtain rfl : i = c := by omega
    refine ⟨z, fun ρ k => ?_, hz⟩
    rw [f_X0_dropBits_l4, if_pos (nI_le (Nat.le_refl _) (by omega))]
  | succ d ih =>
    intro i n z h hn hz
    obtain ⟨n, rfl⟩ := succ_of hn
    have hdj := dj_le s i
    cases ht : s.testBit i with
    | true =>
      obtain ⟨z', e1, e2⟩ := ih (i + 1) n z (by omega) (by omega) (fun k hk => by rw [db, ht]; exact hz k hk)
      refine ⟨z', fun ρ k => ?_, e2⟩
      rw [f_X0_dropBits_l4, if_neg (nI_ge (by omega) (by omega)), holds_n N hs (by omega), b01, ht, nI_1]
      have := e1 ρ k
      rw [dj, ht] at this
      simpa using this
    | false =>
      obtain ⟨z', e1, e2⟩ := ih (i + 1) n (upd z (dj s i) (z i)) (by omega) (by omega) (fun k hk => by
        rw [db, ht]
        simp only [Bool.false_eq_true, if_false]
        unfold updN
        by_cases e : k = dj s i
        · rw [if_pos e, e, upd_s]; exact hz i (by omega)
        · rw [if_neg e, upd_n e]; exact hz k hk)
      refine ⟨z', fun ρ k => ?_, e2⟩
      rw [f_X0_dropBits_l4, if_neg (nI_ge (by omega) (by omega)), holds_n N hs (by omega), b01, ht, nI_1, nI_1, ivi_n (show i < 8 by omega) (by decide), ck_t, ivi_n (show dj s i < 8 by omega) (by decide), ck_t, cl (by omega), cl (by omega)]
      have := e1 ρ k
      rw [dj, ht] at this
      simpa using this
theorem dropM_l42 {N : Nat} {c s : Nat} (hc : c ≤ 8) (hs : s < 2 ^ 31) {bt : Nat → Nat} {st0 : Nat → Int32} : ∀ (d i n : Nat) (z : Nat → Int32), i + d = c → d < n → (∀ k, k < c → z (14 + k) = nI (db bt s i k)) → (∀ k, k < 14 ∨ 22 ≤ k → z k = st0 k) → st0 13 = nI c → ∃ z', (∀ (ρ : Type) (k : Int32 → (Nat → Int32) → Option ρ), f_X8_joins_l42 (nI s) k N n (nI (dj s i)) (nI i) z = k (nI (dj s c)) z') ∧ (∀ k, k < c → z' (14 + k) = nI (db bt s c k)) ∧ ∀ k, k < 14 ∨ 22 ≤ k → z' k = st0 k := by
  intro d
  induction d with
  | zero =>
    intro i n z h hn hz ho h13
    obtain ⟨n, rfl⟩ := succ_of hn
    obtain rfl : i = c := by omega
    refine ⟨z, fun ρ k => ?_, hz, ho⟩
    rw [f_X8_joins_l42, i13, ck_t, c13, ho 13 (by omega), h13, if_pos (nI_le (Nat.le_refl _) (by omega))]
  | succ d ih =>
    intro i n z h hn hz ho h13
    obtain ⟨n, rfl⟩ := succ_of hn
    have hdj := dj_le s i
    cases ht : s.testBit i with
    | true =>
      obtain ⟨z', e1, e2⟩ := ih (i + 1) n z (by omega) (by omega) (fun k hk => by rw [db, ht]; exact hz k hk) ho h13
      refine ⟨z', fun ρ k => ?_, e2⟩
      rw [f_X8_joins_l42, i13, ck_t, c13, ho 13 (by omega), h13, if_neg (nI_ge (by omega) (by omega)), has_n N hs (by omega), b01, ht, nI_1]
      have := e1 ρ k
      rw [dj, ht] at this
      simpa using this
    | false =>
      obtain ⟨z', e1, e2⟩ := ih (i + 1) n (upd z (14 + dj s i) (z (14 + i))) (by omega) (by omega) (fun k hk => by
        rw [db, ht]
        simp only [Bool.false_eq_true, if_false]
        unfold updN
        by_cases e : k = dj s i
        · rw [if_pos e, e, upd_s]; exact hz i (by omega)
        · rw [if_neg e, upd_n (by omega)]; exact hz k hk) (fun k hk => by rw [upd_n (by omega)]; exact ho k hk) h13
      refine ⟨z', fun ρ k => ?_, e2⟩
      rw [f_X8_joins_l42, i13, ck_t, c13, ho 13 (by omega), h13, if_neg (nI_ge (by omega) (by omega)), has_n N hs (by omega), b01, ht, nI_1, nI_1, show (14 : Int32) + nI i = nI (14 + i) from nI_add 14 i, show (14 : Int32) + nI (dj s i) = nI (14 + dj s i) from nI_add 14 _, ivi_n (show 14 + i < 25 by omega) (by decide), ck_t, ivi_n (show 14 + dj s i < 25 by omega) (by decide), ck_t, cl (by omega), cl (by omega)]
      have := e1 ρ k
      rw [dj, ht] at this
      simpa using this
theorem all_8 {c : Nat} (hc : c ≤ 8) : ((1 : Int32) <<< (nI c &&& 31)) - 1 = nI (2 ^ c - 1) := by
  rw [sh1 c (by omega), nI_sub1 (Nat.two_pow_pos c)]
theorem pow8 {c : Nat} (hc : c ≤ 8) : 2 ^ c ≤ 256 := Nat.pow_le_pow_right (by decide) hc
set_option maxHeartbeats 2000000 in
theorem st_joins {N : Nat} (hN : 200000 ≤ N) : St_joins N Rel := by
  intro x_told x_marks xs_length xs_place xs_tokenPlace xs_token xs_value xs_lawTold xsd_size xsd_law xsd_weight xsd_nights xsd_wanted xsd_wantCount xsd_wantBits xs_letters xp_size xp_law xp_weight xp_nights xp_wanted xp_wantCount xp_wantBits xh_bitCount xh_given xh_made xh_gone xh_law xh_has xh_left xh_bits xy_next xy_known xyr_has xyr_left xyr_bits xyr_bitCount xyr_given xyr_made xyr_gone xyr_law x_kept xk_left xk_lumpCount xk_ringed xk_gave xk_giver xk_aims xk_got xk_lumps xg_hours xg_best xu_sums xu_hours x_toldSet x_toldWho x_toldHour xm_has xm_left xm_bits xm_bitCount xm_given xm_made xm_gone xm_law m_people m_known m_toldMany m_trace m_texted m_cursor m_start m_token m_number m_isWrong m_items m_saidPeople m_saidLaw m_ringed m_lumps m_weight m_wants m_wantsMany m_st m_was m_images m_isKept m_told m_text m_saidWeight m_saidNights m_saidWants m_saidMany m_now m_gave m_at m_way m_bestWay m_made a1 hR
  obtain ⟨P, WL, WT, ht, hp, ha, hy, hi, ho, hm, hg⟩ := hR
  have hp' := hp
  have ha' := ha
  obtain ⟨hP, rfl, rfl, hw, hl⟩ := hp
  obtain ⟨hs, lf, bt, g, c, n, w, b1, b2, b3, b4, ⟨g1, g2, g3, g4⟩, ⟨c1, rfl, c3, c4⟩, b7, ⟨n1, n2, n3⟩, ⟨w1, w2, w3⟩⟩ := ha
  unfold f_X7_joins f_X8_joins
  have h256 := pow8 c1
  simp only [i13, ck_t, c13, c3]
  rw [isSetOf_e, in_w, all_8 c1]
  rcases win a1 (b := nI (2 ^ c - 1)) (n := 2 ^ c - 1) rfl (by omega) with hw2 | ⟨s, hs1, rfl, q1, q2⟩
  · have hw3 : a1 < 1 ∨ nI (2 ^ c - 1) < a1 := hw2.imp (fun h => Int32.lt_trans h (by decide)) id
    rw [within_no N hw2, within_no N hw3, if00, if00]
    by_cases e0 : a1 = 0
    · rw [if_pos e0]; exact ⟨_, _, _, _, _, _, _, _, _, _, _, _, _, _, _, _, _, rfl, rfl, P, WL, WT, ht, hp', ha', hy, hi, ho, hm, hg⟩
    · rw [if_neg e0]; exact ⟨_, _, _, _, _, _, _, _, _, _, _, _, _, _, _, _, _, rfl, rfl, P, WL, WT, ht, hp', ha', hy, hi, ho, hm, hg⟩
  have hs2 := pred_two hs1
  rcases Nat.eq_zero_or_pos s with rfl | hs0
  · rw [if_pos (show nI 0 = (0 : Int32) from rfl), within_no N (Or.inl (show nI 0 < 1 by decide)), if00]
    exact ⟨_, _, _, _, _, _, _, _, _, _, _, _, _, _, _, _, _, rfl, rfl, P, WL, WT, ht, hp', ha', hy, hi, ho, hm, hg⟩
  rw [if_neg (nI_ne0 hs0 (by omega)), within_yes N q1 q2, within_yes N (show ¬ nI s < 1 from nI_nlt (b := 1) (by omega) (by omega)) q2, if10, if10]
  rw [minutes_e hN c1 (by omega) (fun k hk => (c4 k hk).2.2.1), sumOf_e hN c1 (by omega) c3 (fun k hk => (c4 k hk).2.2.2)]
  have hsum := sumB_le (s := s) (fun k hk => (c4 k hk).2.1 : ∀ k, k < c → bt k ≤ 60)
  by_cases e60 : sumB bt s c = 60
  · rw [e60, if_pos (show nI 60 = (60 : Int32) from rfl), if_pos (show nI 60 = (60 : Int32) from rfl)]
    obtain ⟨y1, y2, y3, y4, y5, y6, y7, y8, y9, y10, y11, y12, e1, e2, hy'⟩ := co_rem hN hP hy ha'
    rw [e1, e2]
    obtain ⟨zx, x1, x2⟩ := drop_l4 (N := N) c1 (show s < 2 ^ 31 by omega) (bt := bt) c 0 N xh_bits (by omega) (by omega) (fun k hk => (c4 k hk).2.2.1)
    obtain ⟨zm, m1, m2, m3⟩ := dropM_l42 (N := N) c1 (show s < 2 ^ 31 by omega) (bt := bt) (st0 := m_st) c 0 N m_st (by omega) (by omega) (fun k hk => (c4 k hk).2.2.2) (fun k _ => rfl) c3
    have x1' : ∀ (ρ : Type) (k : Int32 → (Nat → Int32) → Option ρ), f_X0_dropBits N (nI c) xh_bits (nI s) k = k (nI (dj s c)) zx := fun ρ k => x1 ρ (fun y2_e41 z_bits_e41 => f_X0_dropBits_e41 k y2_e41 z_bits_e41)
    have m1' : ∀ (ρ : Type) (k : Int32 → (Nat → Int32) → Option ρ), f_X8_joins_l42 (nI s) k N N 0 0 m_st = k (nI (dj s c)) zm := m1
    rw [x1', m1']
    unfold f_X8_joins_e88
    simp only [i13, i22, ck_t, c13, c22, upd_s]
    rw [upd_n (f := zm) (show (22 : Nat) ≠ 13 by decide), m3 22 (by omega), ← b7]
    refine ⟨_, _, _, _, _, _, _, _, _, _, _, _, _, _, _, _, _, rfl, rfl, P, WL, WT, ht, hp', ?_, hy', hi, ho, hm, hg⟩
    have hd := dj_le s c
    refine ⟨hs, lf, db bt s c, g, dj s c, n, w, fun p hp => ?_, b2, b3, fun p hp => ?_, ⟨g1, g2, ?_, g4⟩, ⟨by omega, rfl, ?_, fun k hk => ?_⟩, ?_, ⟨n1, n2, ?_⟩, ⟨w1, w2, ?_⟩⟩
    · rw [upd_n (by omega), upd_n (by omega), m3 p (by omega)]; exact b1 p hp
    · rw [upd_n (by omega), upd_n (by omega), m3 (6 + p) (by omega)]; exact b4 p hp
    · rw [upd_n (by omega), upd_n (by omega), m3 12 (by omega)]; exact g3
    · rw [upd_n (by omega), upd_s]
    · rw [upd_n (by omega), upd_n (by omega)]
      have hk2 := db_ok bt s (fun i hi => ⟨(c4 i hi).1, (c4 i hi).2.1⟩) c (Nat.le_refl c) k (by omega)
      exact ⟨hk2.1, hk2.2, x2 k (by omega), m2 k (by omega)⟩
    · rw [upd_s]
    · rw [upd_n (by omega), upd_n (by omega), m3 23 (by omega)]; exact n3
    · rw [upd_n (by omega), upd_n (by omega), m3 24 (by omega)]; exact w3
  · rw [if_neg (show ¬ nI (sumB bt s c) = (60 : Int32) from fun h => e60 (inj_n (b := 60) (by omega) (by decide) h)), if_neg (show ¬ nI (sumB bt s c) = (60 : Int32) from fun h => e60 (inj_n (b := 60) (by omega) (by decide) h))]
    exact ⟨_, _, _, _, _, _, _, _, _, _, _, _, _, _, _, _, _, rfl, rfl, P, WL, WT, ht, hp', ha', hy, hi, ho, hm, hg⟩

