/-! 27.rate -/
def cnt (f : Nat → Bool) : Nat → Nat
  | 0 => 0
  | n + 1 => cnt f n + (if f n then 1 else 0)
theorem cnt_cong {f g : Nat → Bool} : ∀ {n : Nat}, (∀ i, i < n → f i = g i) → cnt f n = cnt g n
  | 0, _ => rfl
  | n + 1, h => by rw [cnt, cnt, cnt_cong (fun i hi => h i (by omega)), h n (by omega)]
theorem howMany_l4 {ρ : Type} (N : Nat) {P h : Nat} (hP : P ≤ 6) (hh : h < P) {wb : Nat → Int32} {WL : Nat → List Nat} (hw : ∀ p, p < P → wb p = nI (bset (fun h => decide (h ∈ WL p)) P)) (k : Int32 → Option ρ) : ∀ (d i n : Nat), i + d = P → d < n → f_X2_howManyWant_l4 (nI h) (nI P) wb k N n (nI (cnt (fun p => decide (h ∈ WL p)) i)) (nI i) = k (nI (cnt (fun p => decide (h ∈ WL p)) P)) := by
  intro d
  induction d with
  | zero =>
    intro i n h1 hn
    obtain ⟨n, rfl⟩ := succ_of hn
    obtain rfl : i = P := by omega
    rw [f_X2_howManyWant_l4, if_pos (nI_le (Nat.le_refl _) (by omega))]
  | succ d ih =>
    intro i n h1 hn
    obtain ⟨n, rfl⟩ := succ_of hn
    have key := ih (i + 1) n (by omega) (by omega)
    rw [f_X2_howManyWant_l4, if_neg (nI_ge (by omega) (by omega))]
    simp only [ivi_n (show i < 6 by omega) (by decide), ck_t, cl (show i < 2 ^ 31 by omega), hw i (by omega)]
    have hb := two_lt hP (bset_lt (fun h => decide (h ∈ WL i)) P)
    rw [holds_n N (by omega) (by omega), b01, bset_bit, nI_1, nI_1]
    rw [cnt] at key
    by_cases hm : h ∈ WL i
    · simpa [hm, hh] using key
    · simpa [hm, hh] using key
theorem take_mem {l : List Nat} {i h : Nat} (hi : i < l.length) : h ∈ l.take (i + 1) ↔ h ∈ l.take i ∨ l.getD i 0 = h := by
  rw [List.take_succ, List.mem_append]
  have : l[i]?.toList = [l.getD i 0] := by
    rw [List.getD_eq_getElem?_getD, List.getElem?_eq_getElem hi]; rfl
  rw [this, List.mem_singleton]
  constructor
  · rintro (h | h)
    · exact Or.inl h
    · exact Or.inr h.symm
  · rintro (h | h)
    · exact Or.inl h
    · exact Or.inr h.symm
theorem isWanted_l5 {ρ : Type} {P p h : Nat} (hP : P ≤ 6) (hp : p < P) (hh : h < P) {wm w : Nat → Int32} {l : List Nat} (h4 : l.length ≤ 4) (hlt : ∀ x ∈ l, x < P) (h1 : wm p = nI l.length) (h2 : ∀ k, k < l.length → w (4 * p + k) = nI (l.getD k 0)) (k : Int32 → Option ρ) : ∀ (d i n : Nat), i + d = l.length → d < n → f_X8_isWanted_l5 (nI p) (nI h) wm w k n (if h ∈ l.take i then 1 else 0) (nI i) = k (if h ∈ l then 1 else 0) := by
  intro d
  induction d with
  | zero =>
    intro i n e hn
    obtain ⟨n, rfl⟩ := succ_of hn
    obtain rfl : i = l.length := by omega
    rw [f_X8_isWanted_l5]
    simp only [ivi_n (show p < 6 by omega) (by decide), ck_t, cl (show p < 2 ^ 31 by omega), h1]
    rw [if_pos (nI_le (Nat.le_refl _) (by omega)), List.take_length]
    by_cases hm : h ∈ l
    · rw [if_pos hm]; rfl
    · rw [if_neg hm]; rfl
  | succ d ih =>
    intro i n e hn
    obtain ⟨n, rfl⟩ := succ_of hn
    have key := ih (i + 1) n (by omega) (by omega)
    have hi : i < l.length := by omega
    have hg : l.getD i 0 < P := by
      rw [List.getD_eq_getElem?_getD, List.getElem?_eq_getElem hi]
      exact hlt _ (List.getElem_mem hi)
    rw [f_X8_isWanted_l5]
    rw [show (4 : Int32) * nI p + nI i = nI (4 * p + i) by rw [show (4 : Int32) = nI 4 from rfl, pk_mul, nI_add]]
    simp only [ivi_n (show p < 6 by omega) (by decide), ivi_n (show 4 * p + i < 24 by omega) (by decide), ck_t, cl (show p < 2 ^ 31 by omega), cl (show 4 * p + i < 2 ^ 31 by omega), h1, h2 i hi, f_X8_isWanted_j35, nI_1]
    rw [if_neg (nI_ge hi (by omega))]
    by_cases hm : h ∈ l.take i
    · rw [if_pos hm, if10]
      rw [if_pos ((take_mem hi).mpr (Or.inl hm))] at key
      exact key
    · rw [if_neg hm, if00]
      by_cases he : l.getD i 0 = h
      · rw [he, if_pos rfl]
        rw [if_pos ((take_mem hi).mpr (Or.inr he))] at key
        exact key
      · rw [if_neg (fun q => he (inj_n (by omega) (by omega) q))]
        rw [if_neg (fun q => ((take_mem hi).mp q).elim hm he)] at key
        exact key
theorem isWanted_e {ρ : Type} {N : Nat} (hN : 200000 ≤ N) {P p h : Nat} (hP : P ≤ 6) (hp : p < P) (hh : h < P) {wm w : Nat → Int32} {l : List Nat} (h4 : l.length ≤ 4) (hlt : ∀ x ∈ l, x < P) (h1 : wm p = nI l.length) (h2 : ∀ k, k < l.length → w (4 * p + k) = nI (l.getD k 0)) (k : Int32 → Option ρ) : f_X8_isWanted N wm w (nI p) (nI h) k = k (if h ∈ l then 1 else 0) := by
  have e := isWanted_l5 hP hp hh h4 hlt h1 h2 k l.length 0 N (by omega) (by omega)
  exact e
theorem wantedBy_l4 {ρ : Type} {N : Nat} (hN : 200000 ≤ N) {P h : Nat} (hP : P ≤ 6) (hh : h < P) {wm w : Nat → Int32} {WL : Nat → List Nat} (hw : ∀ p, p < P → (WL p).length ≤ 4 ∧ (∀ x ∈ WL p, x < P) ∧ wm p = nI (WL p).length ∧ ∀ k, k < (WL p).length → w (4 * p + k) = nI ((WL p).getD k 0)) (k : Int32 → Option ρ) : ∀ (d i n : Nat), i + d = P → d < n → f_X8_wantedBy_l4 (nI h) (nI P) wm w k N n (nI (cnt (fun p => decide (h ∈ WL p)) i)) (nI i) = k (nI (cnt (fun p => decide (h ∈ WL p)) P)) := by
  intro d
  induction d with
  | zero =>
    intro i n h1 hn
    obtain ⟨n, rfl⟩ := succ_of hn
    obtain rfl : i = P := by omega
    rw [f_X8_wantedBy_l4, if_pos (nI_le (Nat.le_refl _) (by omega))]
  | succ d ih =>
    intro i n h1 hn
    obtain ⟨n, rfl⟩ := succ_of hn
    have key := ih (i + 1) n (by omega) (by omega)
    obtain ⟨a1, a2, a3, a4⟩ := hw i (by omega)
    rw [f_X8_wantedBy_l4, if_neg (nI_ge (by omega) (by omega)), isWanted_e hN hP (show i < P by omega) hh a1 a2 a3 a4]
    rw [cnt] at key
    unfold f_X8_wantedBy_j27
    by_cases hm : h ∈ WL i
    · rw [if_pos hm, if10, nI_1, nI_1]
      simpa [hm] using key
    · rw [if_neg hm, if00, nI_1, Int32.add_zero]
      simpa [hm] using key
/-- who has an hour: one at most -/
theorem whoX_none {ρ : Type} {x : Int32} {has : Nat → Int32} (h : ∀ q, q < 6 → ¬ has q = x) (k : Int32 → Option ρ) : ∀ (d i n : Nat), i + d = 6 → d < n → f_X0_whoHas_l2 x has k n (nI i) = k (-1) := by
  intro d
  induction d with
  | zero =>
    intro i n h1 hn
    obtain ⟨n, rfl⟩ := succ_of hn
    obtain rfl : i = 6 := by omega
    rw [f_X0_whoHas_l2, if_pos (show (6 : Int32) ≤ nI 6 by decide)]
  | succ d ih =>
    intro i n h1 hn
    obtain ⟨n, rfl⟩ := succ_of hn
    rw [f_X0_whoHas_l2, if_neg (show ¬ (6 : Int32) ≤ nI i from nI_ge (b := 6) (by omega) (by decide)), ivi_n (show i < 6 by omega) (by decide), ck_t, cl (by omega), if_neg (h i (by omega)), nI_1]
    exact ih (i + 1) n (by omega) (by omega)
theorem whoX_some {ρ : Type} {x : Int32} {has : Nat → Int32} {p : Nat} (hp : p < 6) (h0 : has p = x) (h : ∀ q, q < 6 → has q = x → q = p) (k : Int32 → Option ρ) : ∀ (d i n : Nat), i + d = p → d < n → f_X0_whoHas_l2 x has k n (nI i) = k (nI p) := by
  intro d
  induction d with
  | zero =>
    intro i n h1 hn
    obtain ⟨n, rfl⟩ := succ_of hn
    obtain rfl : i = p := by omega
    rw [f_X0_whoHas_l2, if_neg (show ¬ (6 : Int32) ≤ nI i from nI_ge (b := 6) (by omega) (by decide)), ivi_n (show i < 6 by omega) (by decide), ck_t, cl (by omega), if_pos h0]
  | succ d ih =>
    intro i n h1 hn
    obtain ⟨n, rfl⟩ := succ_of hn
    rw [f_X0_whoHas_l2, if_neg (show ¬ (6 : Int32) ≤ nI i from nI_ge (b := 6) (by omega) (by decide)), ivi_n (show i < 6 by omega) (by decide), ck_t, cl (by omega), if_neg (fun q => absurd (h i (by omega) q) (by omega)), nI_1]
    exact ih (i + 1) n (by omega) (by omega)
theorem whoM_l5 {ρ : Type} {P : Nat} (hP : P ≤ 6) {x v : Int32} {st : Nat → Int32} (k : Int32 → Option ρ) : ∀ (d i n : Nat), i + d = P → d < n → (∀ q, i ≤ q → q < P → ¬ st q = x) → f_X8_whoHas_l5 x (nI P) st k n v (nI i) = k v := by
  intro d
  induction d with
  | zero =>
    intro i n h1 hn h
    obtain ⟨n, rfl⟩ := succ_of hn
    obtain rfl : i = P := by omega
    rw [f_X8_whoHas_l5, if_pos (nI_le (Nat.le_refl _) (by omega))]
  | succ d ih =>
    intro i n h1 hn h
    obtain ⟨n, rfl⟩ := succ_of hn
    rw [f_X8_whoHas_l5, if_neg (nI_ge (by omega) (by omega)), show (0 : Int32) + nI i = nI i from Int32.zero_add _, ivi_n (show i < 25 by omega) (by decide), ck_t, cl (by omega), if_neg (h i (Nat.le_refl _) (by omega)), nI_1]
    exact ih (i + 1) n (by omega) (by omega) (fun q q1 q2 => h q (by omega) q2)
theorem whoM_some {ρ : Type} {P : Nat} (hP : P ≤ 6) {x : Int32} {st : Nat → Int32} {p : Nat} (hp : p < P) (h0 : st p = x) (h : ∀ q, q < P → st q = x → q = p) (k : Int32 → Option ρ) : ∀ (d i n : Nat) (v : Int32), i + d = p → P < n + i → f_X8_whoHas_l5 x (nI P) st k n v (nI i) = k (nI p) := by
  intro d
  induction d with
  | zero =>
    intro i n v h1 hn
    obtain ⟨n, rfl⟩ := succ_of (show 0 < n by omega)
    obtain rfl : i = p := by omega
    rw [f_X8_whoHas_l5, if_neg (nI_ge (by omega) (by omega)), show (0 : Int32) + nI i = nI i from Int32.zero_add _, ivi_n (show i < 25 by omega) (by decide), ck_t, cl (by omega), if_pos h0, nI_1]
    exact whoM_l5 hP k (P - (i + 1)) (i + 1) n (by omega) (by omega) (fun q q1 q2 q3 => absurd (h q q2 q3) (by omega))
  | succ d ih =>
    intro i n v h1 hn
    obtain ⟨n, rfl⟩ := succ_of (show 0 < n by omega)
    rw [f_X8_whoHas_l5, if_neg (nI_ge (by omega) (by omega)), show (0 : Int32) + nI i = nI i from Int32.zero_add _, ivi_n (show i < 25 by omega) (by decide), ck_t, cl (by omega), if_neg (fun q => absurd (h i (by omega) q) (by omega)), nI_1]
    exact ih (i + 1) n v (by omega) (by omega)
theorem m9 {a : Nat} (ha : a < 2 ^ 31) : ¬ (-9 : Int32) = nI a := fun h => ne9 ha h.symm
theorem m1 {a : Nat} (ha : a < 2 ^ 31) : ¬ nI a = (-1 : Int32) := fun h => by
  have h1 := congrArg Int32.toInt h
  rw [nI_toInt ha] at h1
  have : (-1 : Int32).toInt = -1 := by decide
  omega
set_option maxHeartbeats 2000000 in
theorem st_rate {N : Nat} (hN : 200000 ≤ N) : St_rate N Rel := by
  intro x_told x_marks xs_length xs_place xs_tokenPlace xs_token xs_value xs_lawTold xsd_size xsd_law xsd_weight xsd_nights xsd_wanted xsd_wantCount xsd_wantBits xs_letters xp_size xp_law xp_weight xp_nights xp_wanted xp_wantCount xp_wantBits xh_bitCount xh_given xh_made xh_gone xh_law xh_has xh_left xh_bits xy_next xy_known xyr_has xyr_left xyr_bits xyr_bitCount xyr_given xyr_made xyr_gone xyr_law x_kept xk_left xk_lumpCount xk_ringed xk_gave xk_giver xk_aims xk_got xk_lumps xg_hours xg_best xu_sums xu_hours x_toldSet x_toldWho x_toldHour xm_has xm_left xm_bits xm_bitCount xm_given xm_made xm_gone xm_law m_people m_known m_toldMany m_trace m_texted m_cursor m_start m_token m_number m_isWrong m_items m_saidPeople m_saidLaw m_ringed m_lumps m_weight m_wants m_wantsMany m_st m_was m_images m_isKept m_told m_text m_saidWeight m_saidNights m_saidWants m_saidMany m_now m_gave m_at m_way m_bestWay m_made a1 a2 hR
  obtain ⟨P, WL, WT, ht, hp, ha, hy, hi, ho, hm, hg⟩ := hR
  have ha' := ha
  have hp' := hp
  obtain ⟨hP, rfl, rfl, hw, hl⟩ := hp
  obtain ⟨hs, lf, bt, g, c, n, w, b1, b2, b3, b4, b5, b6, b7, ⟨n1, rfl, n3⟩, b9⟩ := ha
  subst hm
  suffices hh : ∃ r t, f_X7_rate N x_marks (nI P) xp_weight (nI n) xh_has xh_left xp_wantBits a1 a2 (fun r q0 => some (r, q0)) = some (r, t) ∧ f_X8_rate N (nI P) x_marks m_weight m_wantsMany m_wants m_st a1 a2 (fun r q0 => some (r, q0)) = some (r, t) by
    obtain ⟨r, t, e1, e2⟩ := hh
    exact ⟨r, t, t, e1, e2, P, WL, WT, ht, hp', ha', hy, hi, ho, rfl, hg⟩
  unfold f_X7_rate f_X8_rate
  rw [in_w]
  have nokind : (a1 < 0 ∨ (5 : Int32) < a1) → ∀ {α : Type} (A0 A1 A2 A3 A4 A5 A6 : α), (if a1 = 0 then A0 else if a1 = 1 then A1 else if a1 = 2 then A2 else if a1 = 3 then A3 else if a1 = 4 then A4 else if a1 = 5 then A5 else A6) = A6 := by
    intro h α A0 A1 A2 A3 A4 A5 A6
    have d : ∀ v : Nat, v ≤ 5 → ¬ a1 = nI v := fun v hv e => by
      rcases h with h | h
      · rw [e] at h; exact nI_pos (by omega) h
      · rw [e] at h; exact absurd h (nI_nlt (a := 5) (b := v) hv (by omega))
    rw [if_neg (show ¬ a1 = 0 from d 0 (by omega)), if_neg (show ¬ a1 = 1 from d 1 (by omega)), if_neg (show ¬ a1 = 2 from d 2 (by omega)), if_neg (show ¬ a1 = 3 from d 3 (by omega)), if_neg (show ¬ a1 = 4 from d 4 (by omega)), if_neg (show ¬ a1 = 5 from d 5 (by omega))]
  rcases pk_ix a2 (n := P) (by omega) with h | h | ⟨p, hp1, rfl⟩
  · rw [knows_no N (Or.inl h), if00]
    rcases win a1 (b := 5) (n := 5) rfl (by decide) with hw2 | ⟨v, hv, rfl, q1, q2⟩
    · rw [within_no N hw2, if00]; exact ⟨_, _, rfl, rfl⟩
    · rw [within_yes N q1 q2, if10, isPerson_no N hP (Or.inl h), if00]; exact ⟨_, _, rfl, rfl⟩
  · rw [knows_no N (Or.inr h), if00]
    rcases win a1 (b := 5) (n := 5) rfl (by decide) with hw2 | ⟨v, hv, rfl, q1, q2⟩
    · rw [within_no N hw2, if00]; exact ⟨_, _, rfl, rfl⟩
    · rw [within_yes N q1 q2, if10, isPerson_no N hP (Or.inr h), if00]; exact ⟨_, _, rfl, rfl⟩
  rw [knows_yes N (by omega) hp1, if10]
  rcases win a1 (b := 5) (n := 5) rfl (by decide) with hw2 | ⟨v, hv, rfl, q1, q2⟩
  · rw [within_no N hw2, if00, nokind hw2]; exact ⟨_, _, rfl, rfl⟩
  rw [within_yes N q1 q2, if10, isPerson_yes N hP hp1, if10]
  obtain ⟨d1, d2, d3, d4⟩ := b1 p hp1
  obtain ⟨l1, l2, l3⟩ := b4 p hp1
  obtain ⟨t1, t2, t3, t4⟩ := hw p hp1
  have eM : ∀ (ρ : Type) (k : Int32 → Option ρ), f_X8_wantedBy N (nI P) m_wantsMany m_wants (nI p) k = k (nI (cnt (fun q => decide (p ∈ WL q)) P)) := fun ρ k => wantedBy_l4 hN hP hp1 (fun q hq => ⟨(hl q hq).1, (hl q hq).2.2.1, (hl q hq).2.2.2.2.1, fun k hk => ((hl q hq).2.2.2.2.2.2 k hk).2⟩) k P 0 N (by omega) (by omega)
  have eX : ∀ (ρ : Type) (k : Int32 → Option ρ), f_X2_howManyWant N (nI P) xp_wantBits (nI p) k = k (nI (cnt (fun q => decide (p ∈ WL q)) P)) := fun ρ k => howMany_l4 N hP hp1 (fun q hq => (hl q hq).2.2.2.2.2.1) k P 0 N (by omega) (by omega)
  rw [eM]
  unfold f_X7_asHour f_X7_asRiver f_X7_asBand f_X7_asDentist f_X7_asWidow f_X7_asMinute f_X7_asRiver f_X7_asBand f_X7_asHour
  simp only [show (6 : Int32) + nI p = nI (6 + p) from nI_add 6 p]
  simp only [ivi_n (show p < 6 by omega) (by decide), ivi_n (show 6 + p < 25 by omega) (by decide), i23, ck_t, cl (show p < 2 ^ 31 by omega), cl (show 6 + p < 2 ^ 31 by omega), c23, t3, t4, l2, l3, n3, eX, Int64.add_assoc]
  rcases (show v = 0 ∨ v = 1 ∨ v = 2 ∨ v = 3 ∨ v = 4 ∨ v = 5 by omega) with rfl | rfl | rfl | rfl | rfl | rfl
  · exact ⟨_, _, rfl, rfl⟩
  · exact ⟨_, _, rfl, rfl⟩
  · exact ⟨_, _, rfl, rfl⟩
  · exact ⟨_, _, rfl, rfl⟩
  · by_cases hex : ∃ q, q < P ∧ hs q = p
    · obtain ⟨q, hq, hqp⟩ := hex
      have uniq : ∀ q', q' < P → hs q' = p → q' = q := fun q' h1 h2 => b2 q' h1 q hq (h2.trans hqp.symm) (by omega)
      have xv : xh_has q = nI p := by rw [(b1 q hq).2.2.1, hqp, if_neg (by omega)]
      have xu : ∀ q', q' < 6 → xh_has q' = nI p → q' = q := fun q' h1 h2 => by
        rcases Nat.lt_or_ge q' P with h3 | h3
        · rw [(b1 q' h3).2.2.1] at h2
          by_cases e : hs q' = 6
          · rw [if_pos e] at h2; exact absurd h2 (m9 (by omega))
          · rw [if_neg e] at h2
            exact uniq q' h3 (inj_n (by have := (b1 q' h3).1; omega) (by omega) h2)
        · rw [(b3 q' h3 h1).1] at h2; exact absurd h2 (m9 (by omega))
      have mu : ∀ q', q' < P → m_st q' = nI p → q' = q := fun q' h1 h2 => by
        rw [(b1 q' h1).2.2.2] at h2
        exact uniq q' h1 (inj_n (by have := (b1 q' h1).1; omega) (by omega) h2)
      have e1 : ∀ (ρ : Type) (k : Int32 → Option ρ), f_X0_whoHas N xh_has (nI p) k = k (nI q) := fun ρ k => whoX_some (by omega) xv xu k q 0 N (by omega) (by omega)
      have e2 : ∀ (ρ : Type) (k : Int32 → Option ρ), f_X8_whoHas N (nI P) m_st (nI p) k = k (nI q) := fun ρ k => whoM_some hP hq (by rw [(b1 q hq).2.2.2, hqp]) mu k q 0 N 10 (by omega) (by omega)
      rw [if_neg (show ¬ nI 4 = (0 : Int32) by decide), if_neg (show ¬ nI 4 = (1 : Int32) by decide), if_neg (show ¬ nI 4 = (2 : Int32) by decide), if_neg (show ¬ nI 4 = (3 : Int32) by decide), if_pos (show nI 4 = (4 : Int32) from rfl), if_neg (show ¬ nI 4 = (1 : Int32) by decide), if_neg (show ¬ nI 4 = (2 : Int32) by decide), if_neg (show ¬ nI 4 = (3 : Int32) by decide), if_pos (show nI 4 = (4 : Int32) from rfl), e1, e2, if_neg (m1 (by omega))]
      exact ⟨_, _, rfl, rfl⟩
    · have xn : ∀ q, q < 6 → ¬ xh_has q = nI p := fun q h1 h2 => by
        rcases Nat.lt_or_ge q P with h3 | h3
        · rw [(b1 q h3).2.2.1] at h2
          by_cases e : hs q = 6
          · rw [if_pos e] at h2; exact absurd h2 (m9 (by omega))
          · rw [if_neg e] at h2
            exact hex ⟨q, h3, inj_n (by have := (b1 q h3).1; omega) (by omega) h2⟩
        · rw [(b3 q h3 h1).1] at h2; exact absurd h2 (m9 (by omega))
      have mn : ∀ q, 0 ≤ q → q < P → ¬ m_st q = nI p := fun q _ h1 h2 => by
        rw [(b1 q h1).2.2.2] at h2
        exact hex ⟨q, h1, inj_n (by have := (b1 q h1).1; omega) (by omega) h2⟩
      have e1 : ∀ (ρ : Type) (k : Int32 → Option ρ), f_X0_whoHas N xh_has (nI p) k = k (-1) := fun ρ k => whoX_none xn k 6 0 N (by omega) (by omega)
      have e2 : ∀ (ρ : Type) (k : Int32 → Option ρ), f_X8_whoHas N (nI P) m_st (nI p) k = k 10 := fun ρ k => whoM_l5 hP k P 0 N (by omega) (by omega) mn
      rw [if_neg (show ¬ nI 4 = (0 : Int32) by decide), if_neg (show ¬ nI 4 = (1 : Int32) by decide), if_neg (show ¬ nI 4 = (2 : Int32) by decide), if_neg (show ¬ nI 4 = (3 : Int32) by decide), if_pos (show nI 4 = (4 : Int32) from rfl), if_neg (show ¬ nI 4 = (1 : Int32) by decide), if_neg (show ¬ nI 4 = (2 : Int32) by decide), if_neg (show ¬ nI 4 = (3 : Int32) by decide), if_pos (show nI 4 = (4 : Int32) from rfl), e1, e2, if_pos rfl]
      exact ⟨_, _, rfl, rfl⟩
  · exact ⟨_, _, rfl, rfl⟩

