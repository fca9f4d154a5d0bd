/-! 46.house: a house is told -/
theorem become_l76 {p : Nat} (hp : p < 6) (w : Nat → Nat → Int32) {wd0 : Nat → Nat → Int32} : ∀ (d i n : Nat) (wd : Nat → Nat → Int32), i + d = 4 → d < n → (∀ k, k < i → wd p k = w p k) → (∀ q, q ≠ p → wd q = wd0 q) → ∃ wd', (∀ (ρ : Type) (k : (Nat → Nat → Int32) → Option ρ), f_X2_become_l76 w (nI p) k n (nI i) wd = k wd') ∧ (∀ k, k < 4 → wd' p k = w p k) ∧ (∀ q, q ≠ p → wd' q = wd0 q) := by
  intro d
  induction d with
  | zero =>
    intro i n wd h hn g1 g2
    obtain ⟨n, rfl⟩ := succ_of hn
    obtain rfl : i = 4 := by omega
    exact ⟨wd, fun ρ k => by rw [f_X2_become_l76, if_pos (show (4 : Int32) ≤ nI 4 by decide)], g1, g2⟩
  | succ d ih =>
    intro i n wd h hn g1 g2
    obtain ⟨n, rfl⟩ := succ_of hn
    obtain ⟨wd', e1, e2⟩ := ih (i + 1) n (upg wd p (upd (wd p) i (w p i))) (by omega) (by omega) (fun k hk => by
      rw [upg_s]
      by_cases e : k = i
      · subst e; rw [upd_s]
      · rw [upd_n e]; exact g1 k (by omega)) (fun q hq => by rw [upg_n hq]; exact g2 q hq)
    refine ⟨wd', fun ρ k => ?_, e2⟩
    rw [f_X2_become_l76, if_neg (show ¬ (4 : Int32) ≤ nI i from nI_ge (b := 4) (by omega) (by decide)), ivi_n hp (by decide), ck_t, ck_t, ivi_n (show i < 4 by omega) (by decide), ck_t, ck_t, cl (by omega), cl (by omega), nI_1]
    exact e1 ρ k
theorem become_l18 {N : Nat} (hN : 200000 ≤ N) {S : Nat} (hS : S ≤ 6) (law : Int32) (ow on oc ob : Nat → Int32) (od : Nat → Nat → Int32) : ∀ (d i n : Nat) (we ni wc wb : Nat → Int32) (wd : Nat → Nat → Int32), i + d = S → d < n → (∀ p, p < i → we p = ow p ∧ ni p = on p ∧ wc p = oc p ∧ wb p = ob p ∧ ∀ k, k < 4 → wd p k = od p k) → ∃ (we' ni' wc' wb' : Nat → Int32) (wd' : Nat → Nat → Int32), (∀ (ρ : Type) (k : Int32 → Int32 → (Nat → Int32) → (Nat → Int32) → (Nat → Int32) → (Nat → Int32) → (Nat → Nat → Int32) → Option ρ), f_X2_become_l18 (nI S) law ow on oc ob od k N n (nI i) we ni wc wb wd = k (nI S) law we' ni' wc' wb' wd') ∧ (∀ p, p < S → we' p = ow p ∧ ni' p = on p ∧ wc' p = oc p ∧ wb' p = ob p ∧ ∀ k, k < 4 → wd' p k = od p k) := by
  intro d
  induction d with
  | zero =>
    intro i n we ni wc wb wd h hn g
    obtain ⟨n, rfl⟩ := succ_of hn
    obtain rfl : i = S := by omega
    exact ⟨we, ni, wc, wb, wd, fun ρ k => by rw [f_X2_become_l18, if_pos (nI_le (Nat.le_refl _) (by omega))], g⟩
  | succ d ih =>
    intro i n we ni wc wb wd h hn g
    obtain ⟨n, rfl⟩ := succ_of hn
    obtain ⟨wd1, f1, f2, f3⟩ := become_l76 (p := i) (by omega) od (wd0 := wd) 4 0 N wd rfl (by omega) (fun k hk => absurd hk (by omega)) (fun q _ => rfl)
    obtain ⟨we', ni', wc', wb', wd', e1, e2⟩ := ih (i + 1) n (upd we i (ow i)) (upd ni i (on i)) (upd wc i (oc i)) (upd wb i (ob i)) wd1 (by omega) (by omega) (fun p hp => by
      by_cases e : p = i
      · subst e; rw [upd_s, upd_s, upd_s, upd_s]; exact ⟨rfl, rfl, rfl, rfl, f2⟩
      · rw [upd_n e, upd_n e, upd_n e, upd_n e, f3 p e]; exact g p (by omega))
    refine ⟨we', ni', wc', wb', wd', fun ρ k => ?_, e2⟩
    rw [f_X2_become_l18, if_neg (nI_ge (by omega) (by omega)), ivi_n (show i < 6 by omega) (by decide), ck_t, ck_t, ck_t, ck_t, ck_t, ck_t, ck_t, ck_t]
    refine (f1 ρ _).trans ?_
    unfold f_X2_become_e103
    rw [cl (by omega), nI_1]
    exact e1 ρ k
theorem begin_l2 {N : Nat} {S : Nat} (hS : S ≤ 6) (nights : Nat → Int32) : ∀ (d i n : Nat) (has left : Nat → Int32), i + d = 6 → d < n → (∀ p, p < i → has p = (if p < S then nI p else -9) ∧ left p = (if p < S then nights p else 0)) → ∃ (has' left' : Nat → Int32), (∀ (ρ : Type) (k : (Nat → Int32) → (Nat → Int32) → Option ρ), f_X0_begin_l2 (nI S) nights k N n (nI i) has left = k has' left') ∧ (∀ p, p < 6 → has' p = (if p < S then nI p else -9) ∧ left' p = (if p < S then nights p else 0)) := by
  intro d
  induction d with
  | zero =>
    intro i n has left h hn g
    obtain ⟨n, rfl⟩ := succ_of hn
    obtain rfl : i = 6 := by omega
    exact ⟨has, left, fun ρ k => by rw [f_X0_begin_l2, if_pos (show (6 : Int32) ≤ nI 6 by decide)], g⟩
  | succ d ih =>
    intro i n has left h hn g
    obtain ⟨n, rfl⟩ := succ_of hn
    obtain ⟨has', left', e1, e2⟩ := ih (i + 1) n (upd has i (if i < S then nI i else -9)) (upd left i (if i < S then nights i else 0)) (by omega) (by omega) (fun p hp => by
      by_cases e : p = i
      · subst e; rw [upd_s, upd_s]; exact ⟨rfl, rfl⟩
      · rw [upd_n e, upd_n e]; exact g p (by omega))
    refine ⟨has', left', fun ρ k => ?_, e2⟩
    have key := e1 ρ k
    rw [f_X0_begin_l2, if_neg (show ¬ (6 : Int32) ≤ nI i from nI_ge (b := 6) (by omega) (by decide))]
    unfold f_X0_begin_j27
    by_cases e : i < S
    · rw [if_pos e, if_pos e] at key
      rw [knows_yes N (by omega) e, if_neg (by decide), ivi_n (show i < 6 by omega) (by decide), ck_t, knows_yes N (by omega) e, if_neg (by decide), ck_t, ck_t, cl (by omega), nI_1]
      exact key
    · rw [if_neg e, if_neg e] at key
      have hk : nI S ≤ nI i := nI_le (by omega) (by omega)
      rw [knows_no N (Or.inr hk), if_pos rfl, ivi_n (show i < 6 by omega) (by decide), ck_t, knows_no N (Or.inr hk), if_pos rfl, ck_t, cl (by omega), nI_1]
      exact key
theorem settles_l10 : ∀ (d i n : Nat) (st : Nat → Int32), i + d = 25 → d < n → (∀ k, k < i → st k = 0) → ∃ st' : Nat → Int32, (∀ (ρ : Type) (k : (Nat → Int32) → Option ρ), f_X8_settles_l10 k n (nI i) st = k st') ∧ (∀ k, k < 25 → st' k = 0) := by
  intro d
  induction d with
  | zero =>
    intro i n st h hn g
    obtain ⟨n, rfl⟩ := succ_of hn
    obtain rfl : i = 25 := by omega
    exact ⟨st, fun ρ k => by rw [f_X8_settles_l10, if_pos (show (25 : Int32) ≤ nI 25 by decide)], g⟩
  | succ d ih =>
    intro i n st h hn g
    obtain ⟨n, rfl⟩ := succ_of hn
    obtain ⟨st', e1, e2⟩ := ih (i + 1) n (upd st i 0) (by omega) (by omega) (fun k hk => by
      by_cases e : k = i
      · subst e; rw [upd_s]
      · rw [upd_n e]; exact g k (by omega))
    refine ⟨st', fun ρ k => ?_, e2⟩
    rw [f_X8_settles_l10, if_neg (show ¬ (25 : Int32) ≤ nI i from nI_ge (b := 25) (by omega) (by decide)), ivi_n (show i < 25 by omega) (by decide), ck_t, cl (by omega), nI_1]
    exact e1 ρ k
theorem settles_l31 (sw sm sn : Nat → Int32) : ∀ (d i n : Nat) (st we wm : Nat → Int32), i + d = 6 → d < n → (∀ p, p < i → st p = nI p ∧ st (6 + p) = sn p ∧ we p = sw p ∧ wm p = sm p) → (∀ k, 12 ≤ k → k < 25 → st k = 0) → ∃ st' we' wm' : Nat → Int32, (∀ (ρ : Type) (k : (Nat → Int32) → (Nat → Int32) → (Nat → Int32) → Option ρ), f_X8_settles_l31 sw sm sn k n (nI i) st we wm = k st' we' wm') ∧ (∀ p, p < 6 → st' p = nI p ∧ st' (6 + p) = sn p ∧ we' p = sw p ∧ wm' p = sm p) ∧ (∀ k, 12 ≤ k → k < 25 → st' k = 0) := by
  intro d
  induction d with
  | zero =>
    intro i n st we wm h hn g1 g2
    obtain ⟨n, rfl⟩ := succ_of hn
    obtain rfl : i = 6 := by omega
    exact ⟨st, we, wm, fun ρ k => by rw [f_X8_settles_l31, if_pos (show (6 : Int32) ≤ nI 6 by decide)], g1, g2⟩
  | succ d ih =>
    intro i n st we wm h hn g1 g2
    obtain ⟨n, rfl⟩ := succ_of hn
    obtain ⟨st', we', wm', e1, e2⟩ := ih (i + 1) n (upd (upd st i (nI i)) (6 + i) (sn i)) (upd we i (sw i)) (upd wm i (sm i)) (by omega) (by omega) (fun p hp => by
      by_cases e : p = i
      · subst e
        rw [upd_n (show p ≠ 6 + p by omega), upd_s, upd_s, upd_s, upd_s]
        exact ⟨rfl, rfl, rfl, rfl⟩
      · rw [upd_n (show p ≠ 6 + i by omega), upd_n e, upd_n (show 6 + p ≠ 6 + i by omega), upd_n (show 6 + p ≠ i by omega), upd_n e, upd_n e]
        exact g1 p (by omega)) (fun k h1 h2 => by rw [upd_n (by omega), upd_n (by omega)]; exact g2 k h1 h2)
    refine ⟨st', we', wm', fun ρ k => ?_, e2⟩
    rw [f_X8_settles_l31, if_neg (show ¬ (6 : Int32) ≤ nI i from nI_ge (b := 6) (by omega) (by decide)), ivi_n (show i < 6 by omega) (by decide), ck_t, ck_t, ck_t, ck_t, Int32.zero_add, ivi_n (show i < 25 by omega) (by decide), ck_t, ck_t, show (6 : Int32) + nI i = nI (6 + i) from nI_add 6 i, ivi_n (show 6 + i < 25 by omega) (by decide), ck_t, cl (by omega), cl (by omega), nI_1]
    exact e1 ρ k
theorem settles_l93 (ss : Nat → Int32) : ∀ (d i n : Nat) (w : Nat → Int32), i + d = 24 → d < n → (∀ k, k < i → w k = ss k) → ∃ w' : Nat → Int32, (∀ (ρ : Type) (k : (Nat → Int32) → Option ρ), f_X8_settles_l93 ss k n (nI i) w = k w') ∧ (∀ k, k < 24 → w' k = ss k) := by
  intro d
  induction d with
  | zero =>
    intro i n w h hn g
    obtain ⟨n, rfl⟩ := succ_of hn
    obtain rfl : i = 24 := by omega
    exact ⟨w, fun ρ k => by rw [f_X8_settles_l93, if_pos (show (24 : Int32) ≤ nI 24 by decide)], g⟩
  | succ d ih =>
    intro i n w h hn g
    obtain ⟨n, rfl⟩ := succ_of hn
    obtain ⟨w', e1, e2⟩ := ih (i + 1) n (upd w i (ss i)) (by omega) (by omega) (fun k hk => by
      by_cases e : k = i
      · subst e; rw [upd_s]
      · rw [upd_n e]; exact g k (by omega))
    refine ⟨w', fun ρ k => ?_, e2⟩
    rw [f_X8_settles_l93, if_neg (show ¬ (24 : Int32) ≤ nI i from nI_ge (b := 24) (by omega) (by decide)), ivi_n (show i < 24 by omega) (by decide), ck_t, ck_t, cl (by omega), nI_1]
    exact e1 ρ k
theorem settles_e {N : Nat} (hN : 200000 ≤ N) (sp sl : Int32) (st sw we sm wm sn ss w kept : Nat → Int32) : ∃ st' we' wm' w' : Nat → Int32, (∀ (ρ : Type) (k : Int32 → Int32 → Int32 → Int32 → (Nat → Int32) → (Nat → Int32) → (Nat → Int32) → (Nat → Int32) → (Nat → Int32) → Option ρ), f_X8_settles N sp sl st sw we sm wm sn ss w kept k = k sp 0 0 0 (upd st' 24 (if 0 ≤ sl then sl else 0)) we' wm' w' (upd (upd kept 0 0) 1 0)) ∧ (∀ p, p < 6 → st' p = nI p ∧ st' (6 + p) = sn p ∧ we' p = sw p ∧ wm' p = sm p) ∧ (∀ k, 12 ≤ k → k < 25 → st' k = 0) ∧ (∀ k, k < 24 → w' k = ss k) := by
  obtain ⟨st1, a1, a2⟩ := settles_l10 25 0 N st rfl (by omega) (fun k hk => absurd hk (by omega))
  obtain ⟨st2, we', wm', b1, b2, b3⟩ := settles_l31 sw sm sn 6 0 N st1 we wm rfl (by omega) (fun k hk => absurd hk (by omega)) (fun k _ h => a2 k h)
  obtain ⟨w', c1, c2⟩ := settles_l93 ss 24 0 N w rfl (by omega) (fun k hk => absurd hk (by omega))
  refine ⟨st2, we', wm', w', fun ρ k => ?_, b2, b3, c2⟩
  unfold f_X8_settles
  refine (a1 ρ _).trans ?_
  unfold f_X8_settles_e29
  refine (b1 ρ _).trans ?_
  unfold f_X8_settles_e91
  refine (c1 ρ _).trans ?_
  unfold f_X8_settles_e117 f_X8_settles_j138
  by_cases e : 0 ≤ sl
  · rw [if_pos e, if_pos e]; rfl
  · rw [if_neg e, if_neg e]; rfl
theorem neg10 : ∀ s, s < 151 → ¬ (0 : Int32) ≤ (-10 : Int32) - nI s := by decide +kernel
set_option maxHeartbeats 2000000 in
theorem st_house {N : Nat} (hN : 200000 ≤ N) : St_house N Rel := by
  intro x_told x_marks xs_length xs_place xs_tokenPlace xs_token xs_value xs_lawTold xsd_size xsd_law xsd_weight xsd_nights xsd_wanted xsd_wantCount xsd_wantBits xs_letters xp_size xp_law xp_weight xp_nights xp_wanted xp_wantCount xp_wantBits xh_bitCount xh_given xh_made xh_gone xh_law xh_has xh_left xh_bits xy_next xy_known xyr_has xyr_left xyr_bits xyr_bitCount xyr_given xyr_made xyr_gone xyr_law x_kept xk_left xk_lumpCount xk_ringed xk_gave xk_giver xk_aims xk_got xk_lumps xg_hours xg_best xu_sums xu_hours x_toldSet x_toldWho x_toldHour xm_has xm_left xm_bits xm_bitCount xm_given xm_made xm_gone xm_law m_people m_known m_toldMany m_trace m_texted m_cursor m_start m_token m_number m_isWrong m_items m_saidPeople m_saidLaw m_ringed m_lumps m_weight m_wants m_wantsMany m_st m_was m_images m_isKept m_told m_text m_saidWeight m_saidNights m_saidWants m_saidMany m_now m_gave m_at m_way m_bestWay m_made hR
  obtain ⟨P, WL, WT, ht, hp, ha, hy, hi, ho, hm, hg⟩ := hR
  have hp0 := hp
  have ha0 := ha
  have ho0 := ho
  have ht0 := ht
  have hy0 := hy
  have hi0 := hi
  obtain ⟨L, hL, rfl, rfl, htx⟩ := ht
  have T : TX L (fun i => (m_text i).toNatClampNeg) xs_letters m_text := ⟨hL, fun i hi => by
    obtain ⟨q1, c, q2, q3⟩ := htx i hi
    have e : (m_text i).toNatClampNeg = c := by rw [q3, cl (by omega)]
    dsimp only
    rw [e, q1]
    exact ⟨q3, q3, q2⟩⟩
  obtain ⟨s, j, t, v, t', n, o1, o2, o3, o4, tk, x0, y0⟩ := tok hN T (Nat.zero_le L) xs_value
  have x0' : ∀ (ρ : Type) (k : Int32 → Int32 → Int32 → Int32 → Option ρ), f_X4_step N (nI L) 0 xs_value xs_letters k = k (nI j) (nI s) t v := x0
  have y0' : ∀ (ρ : Type) (k : Int32 → Int32 → Int32 → Int32 → Option ρ), f_X8_next N (nI L) 0 m_text k = k (nI j) (nI s) t' n := y0
  rcases readL hN T 151 0 j s 0 t v t' n 0 0 (-1) (fun _ => []) (fun _ => 0) (fun _ => 0) xsd_weight xsd_nights xsd_wantCount xsd_wantBits xsd_wanted m_saidWeight m_saidNights m_saidMany m_saidWants N N rfl (by omega) (by omega) o3 o2 o4 tk ⟨by decide, fun p hp => absurd hp (by omega), fun p hp => absurd hp (by omega)⟩ (Or.inl ⟨rfl, rfl, rfl⟩) with ⟨s', p1, t1, v1, lt1, sz1, law1, we1, ni1, wc1, wb1, wd1, c2, t2, m2, it2, sp2, sl2, sw2, sn2, sm2, ss2, w1, w2, w3⟩ | ⟨i', S, WL', WT', NT, p1, q1, t1, v1, lt1, law1, we1, ni1, wc1, wb1, wd1, c2, s2, t2, m2, sl2, sw2, sn2, sm2, ss2, w1, hR, hW, w2, w3⟩
  · have X : ∀ (ρ : Type) (k : _), f_X7_house (ρ := ρ) N x_told (nI L) xs_value xs_letters xsd_weight xsd_nights xsd_wantCount xsd_wantBits xsd_wanted xp_size xp_law xp_weight xp_nights xp_wantCount xp_wantBits xp_wanted xh_bitCount xh_given xh_made xh_gone xh_law xh_has xh_left xy_known x_kept k = k ((-10 : Int32) - nI s') x_told (nI L) p1 (nI s') t1 v1 lt1 sz1 law1 we1 ni1 wc1 wb1 wd1 xp_size xp_law xp_weight xp_nights xp_wantCount xp_wantBits xp_wanted xh_bitCount xh_given xh_made xh_gone xh_law xh_has xh_left xy_known x_kept := fun ρ k => by
      unfold f_X7_house f_X4_read f_X2_empty
      refine (x0' ρ _).trans ?_
      refine (w2 ρ _ _).trans ?_
      unfold f_X4_read_e100
      dsimp only
      rw [if_neg (neg10 s' (by omega))]
    have Y : ∀ (ρ : Type) (k : _), f_X8_house (ρ := ρ) N m_people m_known m_toldMany (nI L) m_text m_saidWeight m_saidNights m_saidMany m_saidWants m_st m_weight m_wantsMany m_wants m_isKept k = k ((-10 : Int32) - nI s') m_people m_known m_toldMany (nI L) c2 (nI s') t2 m2 1 it2 sp2 sl2 sw2 sn2 sm2 ss2 m_st m_weight m_wantsMany m_wants m_isKept := fun ρ k => by
      unfold f_X8_house
      rw [y0']
      refine (w3 ρ _).trans ?_
      unfold f_X8_house_e60
      rw [if_neg (by decide)]
    exact ⟨_, _, _, _, _, _, _, _, _, _, _, _, _, _, _, _, _, _, _, _, _, _, _, _, _, _, _, _, _, _, _, _, _, _, _, _, _, _, _, _, _, _, _, _, _, _, _, _, _, _, _, _, X _ _, Y _ _, P, WL, WT, ht0, hp0, ha0, hy0, hi0, ho0, hm, hg⟩
  · obtain ⟨hS, r1, r2⟩ := hR
    obtain ⟨we', ni', wc', wb', wd', b1, b2⟩ := become_l18 hN hS law1 we1 ni1 wc1 wb1 wd1 S 0 N xp_weight xp_nights xp_wantCount xp_wantBits xp_wanted (by omega) (by omega) (fun p hp => absurd hp (by omega))
    obtain ⟨has', left', c1, d1⟩ := begin_l2 (N := N) hS ni' 6 0 N xh_has xh_left rfl (by omega) (fun p hp => absurd hp (by omega))
    obtain ⟨st', mw', mm', mws', f1, f2, f3, f4⟩ := settles_e hN (nI S) sl2 m_st sw2 m_weight sm2 m_wantsMany sn2 ss2 m_wants m_isKept
    have X : ∀ (ρ : Type) (k : _), f_X7_house (ρ := ρ) N x_told (nI L) xs_value xs_letters xsd_weight xsd_nights xsd_wantCount xsd_wantBits xsd_wanted xp_size xp_law xp_weight xp_nights xp_wantCount xp_wantBits xp_wanted xh_bitCount xh_given xh_made xh_gone xh_law xh_has xh_left xy_known x_kept k = k (nI i') 0 0 p1 q1 t1 v1 lt1 (nI S) law1 we1 ni1 wc1 wb1 wd1 (nI S) law1 we' ni' wc' wb' wd' 0 0 0 0 law1 has' left' 0 (upd (upd x_kept 0 0) 1 0) := fun ρ k => by
      unfold f_X7_house f_X4_read f_X2_empty
      refine (x0' ρ _).trans ?_
      refine (w2 ρ _ _).trans ?_
      unfold f_X4_read_e121
      dsimp only
      rw [if_pos (nI_pos' (by omega))]
      unfold f_X2_become
      refine (b1 ρ _).trans ?_
      unfold f_X0_begin
      refine (c1 ρ _).trans ?_
      unfold f_X0_begin_e58
      obtain ⟨n3, rfl⟩ : ∃ n3, N = n3 + 1 + 1 + 1 := ⟨N - 3, by omega⟩
      rfl
    have Y : ∀ (ρ : Type) (k : _), f_X8_house (ρ := ρ) N m_people m_known m_toldMany (nI L) m_text m_saidWeight m_saidNights m_saidMany m_saidWants m_st m_weight m_wantsMany m_wants m_isKept k = k (nI i') (nI S) 0 0 0 c2 s2 t2 m2 0 (nI i') (nI S) sl2 sw2 sn2 sm2 ss2 (upd st' 24 (if 0 ≤ sl2 then sl2 else 0)) mw' mm' mws' (upd (upd m_isKept 0 0) 1 0) := fun ρ k => by
      unfold f_X8_house
      rw [y0']
      refine (w3 ρ _).trans ?_
      unfold f_X8_house_e60
      rw [if_pos rfl]
      exact f1 ρ _
    have hlaw : ∃ w, w ≤ 2 ∧ law1 = nI w ∧ (if 0 ≤ sl2 then sl2 else 0) = nI w := by
      rcases hW with ⟨_, e1, e2⟩ | ⟨_, w, hw, e1, e2⟩
      · exact ⟨0, by decide, e1, by rw [e2]; rfl⟩
      · exact ⟨w, hw, e1, by rw [e2, if_pos (nI_pos' (by omega))]⟩
    obtain ⟨w, hw, l1, l2⟩ := hlaw
    refine ⟨_, _, _, _, _, _, _, _, _, _, _, _, _, _, _, _, _, _, _, _, _, _, _, _, _, _, _, _, _, _, _, _, _, _, _, _, _, _, _, _, _, _, _, _, _, _, _, _, _, _, _, _, X _ _, Y _ _, S, WL', WT', ⟨0, by decide, rfl, rfl, fun i h => absurd h (by omega)⟩, ⟨hS, rfl, rfl, fun p hp => ?_, fun p hp => ?_⟩, ?_, ?_, ?_, ⟨0, by decide, rfl, rfl, fun j h => absurd h (by omega)⟩, hm, hg⟩
    · obtain ⟨z1, z2, z3, z4, z5, z6, z7⟩ := r1 p hp
      exact ⟨z1, z2, by rw [(b2 p hp).1, z3], by rw [(f2 p (by omega)).2.2.1, z4]⟩
    · obtain ⟨z1, z2, z3, z4, z5, z6, z7⟩ := r2 p hp
      refine ⟨z1, z2, z3, by rw [(b2 p hp).2.2.1, z4], by rw [(f2 p (by omega)).2.2.2, z5], ?_, fun k hk => ⟨by rw [(b2 p hp).2.2.2.2 k (by omega), (z7 k hk).1], by rw [f4 (4 * p + k) (by omega), (z7 k hk).2]⟩⟩
      rw [(b2 p hp).2.2.2.1, z6]
      congr 1
      exact bset_more hS (fun i h1 h2 => decide_eq_false (fun q => by have := z3 i q; omega))
    · refine ⟨fun p => p, NT, fun _ => 0, 0, 0, 0, w, fun p hp => ?_, fun p _ q _ e _ => e, fun p h1 h2 => ?_, fun p hp => ?_, ?_, ?_, ?_, ?_, ?_⟩
      · refine ⟨show p ≤ 6 by omega, fun _ => hp, ?_, ?_⟩
        · rw [(d1 p (by omega)).1, if_pos hp, if_neg (show ¬ p = 6 by omega)]
        · rw [upd_n (by omega), (f2 p (by omega)).1]
      · rw [(d1 p h2).1, (d1 p h2).2, if_neg (by omega), if_neg (by omega)]; exact ⟨rfl, rfl⟩
      · obtain ⟨z1, z2, z3, z4, z5, z6, z7⟩ := r1 p hp
        refine ⟨z5, ?_, ?_⟩
        · rw [(d1 p (by omega)).2, if_pos hp, (b2 p hp).2.1, z6]
        · rw [upd_n (by omega), (f2 p (by omega)).2.1, z7]
      · refine ⟨Nat.pow_pos (by decide), rfl, ?_, fun p _ q => ?_⟩
        · rw [upd_n (by decide), f3 12 (by decide) (by decide)]; rfl
        · rw [Nat.zero_testBit] at q; exact absurd q (by decide)
      · refine ⟨by decide, rfl, ?_, fun k hk => absurd hk (by omega)⟩
        rw [upd_n (by decide), f3 13 (by decide) (by decide)]; rfl
      · rw [upd_n (by decide), f3 22 (by decide) (by decide)]
      · refine ⟨by decide, rfl, ?_⟩
        rw [upd_n (by decide), f3 23 (by decide) (by decide)]; rfl
      · exact ⟨hw, l1, by rw [upd_s, l2]⟩
    · obtain ⟨n9, x9, _, hx9, _, _, hx10, _⟩ := hy
      exact ⟨0, x9, by decide, hx9, rfl, rfl, hx10, fun j h => absurd h (by omega)⟩
    · intro i hi
      have e0 : upd (upd x_kept 0 0) 1 0 i = 0 := by
        by_cases e : i = 1
        · subst e; rw [upd_s]
        · obtain rfl : i = 0 := by omega
          rw [upd_n (by decide), upd_s]
      have e1 : upd (upd m_isKept 0 0) 1 0 i = 0 := by
        by_cases e : i = 1
        · subst e; rw [upd_s]
        · obtain rfl : i = 0 := by omega
          rw [upd_n (by decide), upd_s]
      rw [e0, e1]
      exact ⟨Or.inl rfl, rfl, fun h => absurd h (by decide)⟩

