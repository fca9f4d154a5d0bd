/-! 35.would: would, served, night -/
theorem Rp_HX {P : Nat} {WL : Nat → List Nat} {WT : Nat → Nat} {size people : Int32} {weight wc wb mweight mwants mmany : Nat → Int32} {wanted : Nat → Nat → Int32} (h : Rp P WL WT size weight wc wb wanted people mweight mwants mmany) : HX P WL WT wc wanted weight :=
  ⟨h.1, fun p hp => (h.2.2.2.2 p hp).1, fun p hp => (h.2.2.2.2 p hp).2.2.1, fun p hp => (h.2.2.2.2 p hp).2.2.2.1, fun p hp k hk => ((h.2.2.2.2 p hp).2.2.2.2.2.2 k hk).1, fun p hp => (h.2.2.2.1 p hp).2.1, fun p hp => (h.2.2.2.1 p hp).2.2.1⟩
theorem Rp_HM {P : Nat} {WL : Nat → List Nat} {WT : Nat → Nat} {size people : Int32} {weight wc wb mweight mwants mmany : Nat → Int32} {wanted : Nat → Nat → Int32} (h : Rp P WL WT size weight wc wb wanted people mweight mwants mmany) : HM P WL WT mmany mwants mweight :=
  ⟨h.1, fun p hp => (h.2.2.2.2 p hp).1, fun p hp => (h.2.2.2.2 p hp).2.2.1, fun p hp => (h.2.2.2.2 p hp).2.2.2.2.1, fun p hp k hk => ((h.2.2.2.2 p hp).2.2.2.2.2.2 k hk).2, fun p hp => (h.2.2.2.1 p hp).2.1, fun p hp => (h.2.2.2.1 p hp).2.2.2⟩
theorem asIt_e {ρ : Type} {N : Nat} (hN : 200000 ≤ N) (st now : Nat → Int32) (k : (Nat → Int32) → Option ρ) : f_X8_asItIs N st now k = k (blt now st 0 0 25) := by
  unfold f_X8_asItIs
  exact copy_e hN st now (a := 0) (b := 0) (by decide) (by decide) (by decide) (by decide) k
theorem asIt_at (st now : Nat → Int32) {i : Nat} (h : i < 25) : blt now st 0 0 25 i = st i := by
  have := blt_in (d := now) (e := st) (a := 0) (b := 0) h
  rw [Nat.zero_add] at this; exact this
/-- the class's night of a set of people who have hours -/
theorem playX {N : Nat} (hN : 200000 ≤ N) {P g : Nat} {WL : Nat → List Nat} {WT hs : Nat → Nat} {wc : Nat → Int32} {wanted : Nat → Nat → Int32} {weight : Nat → Int32} (H : HX P WL WT wc wanted weight) {w : Nat} (hw : w ≤ 2) {has st : Nat → Int32} (b1 : ∀ p, p < P → hs p ≤ 6 ∧ (hs p ≠ 6 → hs p < P) ∧ has p = (if hs p = 6 then -9 else nI (hs p)) ∧ st p = nI (hs p)) (b2 : ∀ p, p < P → ∀ q, q < P → hs p = hs q → hs p ≠ 6 → p = q) (hg : g < 2 ^ P) (h6 : ∀ p, p < P → g.testBit p = true → hs p ≠ 6) (giver got gave aims lumps : Nat → Int32) : ∃ giver' got' gave' aims' lumps', (∀ (ρ : Type) (k : Int32 → Int32 → Int32 → (Nat → Int32) → (Nat → Int32) → (Nat → Int32) → (Nat → Int32) → (Nat → Int32) → Option ρ), f_X6_play N giver got (nI P) gave wc wanted weight aims lumps has (nI g) (nI w) k = k 0 (nI (Nt P WL WT hs w g).2.2.1.length) (nI (Nt P WL WT hs w g).2.1) giver' got' gave' aims' lumps') ∧ (∀ p, p < 6 → got' p = enc9 ((Nt P WL WT hs w g).2.2.2 p)) ∧ (∀ i, i < (Nt P WL WT hs w g).2.2.1.length → lumps' i = nI ((Nt P WL WT hs w g).2.2.1.getD i 0)) :=
  play_e hN H hw hg (fun p hp hb => (b1 p hp).2.1 (h6 p hp hb)) (fun p q hp hq hb1 hb2 e => b2 p hp q hq e (h6 p hp hb1)) (fun p hp hb => by rw [(b1 p hp).2.2.1, if_neg (h6 p hp hb)]) giver got gave aims lumps
theorem goesM {N : Nat} (hN : 200000 ≤ N) {P g c : Nat} {WL : Nat → List Nat} {WT hs bt : Nat → Nat} {wm ws weight : Nat → Int32} (H : HM P WL WT wm ws weight) (hc : c ≤ 8) {w : Nat} (hw : w ≤ 2) {has st : Nat → Int32} (b1 : ∀ p, p < P → hs p ≤ 6 ∧ (hs p ≠ 6 → hs p < P) ∧ has p = (if hs p = 6 then -9 else nI (hs p)) ∧ st p = nI (hs p)) (b2 : ∀ p, p < P → ∀ q, q < P → hs p = hs q → hs p ≠ 6 → p = q) (h13 : st 13 = nI c) (hb : ∀ k, k < c → st (14 + k) = nI (bt k)) (hg : g < 2 ^ P) (h6 : ∀ p, p < P → g.testBit p = true → hs p ≠ 6) (now gave at_ : Nat → Int32) : ∃ now' gave' at', (∀ (ρ : Type) (k : Int32 → Int32 → (Nat → Int32) → (Nat → Int32) → (Nat → Int32) → Option ρ), f_X8_goesBy N (nI P) (blt now st 0 0 25) gave wm ws weight at_ (nI g) (nI w) k = k (nI (Nt P WL WT hs w g).2.1) (nI (Nt P WL WT hs w g).2.2.1.length) now' gave' at') ∧ MN P g hs bt WT c (blt now st 0 0 25) (Nt P WL WT hs w g) now' := by
  have hP := H.hP
  exact goes_e hN H hc hw hg (fun p hp hb => (b1 p hp).2.1 (h6 p hp hb)) (fun p q hp hq hb1 hb2 e => b2 p hp q hq e (h6 p hp hb1)) (fun p hp => by rw [asIt_at st now (by omega), (b1 p hp).2.2.2]) (by rw [asIt_at st now (by decide), h13]) (fun k hk => by rw [asIt_at st now (by omega)]; exact hb k hk) gave at_
/-- what came of the night -/
abbrev NF (P g : Nat) (hs : Nat → Nat) (R : NS) : Prop := (R.1 = 0) ∧ (NI P g hs R) ∧ (∀ p, R.2.2.2 p = 6 ∨ R.2.2.2 p < P) ∧ (R.2.1 < 64)
theorem NF.s0 {P g : Nat} {hs : Nat → Nat} {R : NS} (zz : NF P g hs R) : R.1 = 0 := zz.1
theorem NF.I {P g : Nat} {hs : Nat → Nat} {R : NS} (zz : NF P g hs R) : NI P g hs R := zz.2.1
theorem NF.gtP {P g : Nat} {hs : Nat → Nat} {R : NS} (zz : NF P g hs R) : ∀ p, R.2.2.2 p = 6 ∨ R.2.2.2 p < P := zz.2.2.1
theorem NF.r64 {P g : Nat} {hs : Nat → Nat} {R : NS} (zz : NF P g hs R) : R.2.1 < 64 := zz.2.2.2
theorem NtF {P g : Nat} (hP : P ≤ 6) {WL : Nat → List Nat} {WT hs : Nat → Nat} {w : Nat} (b1 : ∀ p, p < P → hs p ≤ 6 ∧ (hs p ≠ 6 → hs p < P)) (b2 : ∀ p, p < P → ∀ q, q < P → hs p = hs q → hs p ≠ 6 → p = q) (hg : g < 2 ^ P) (h6 : ∀ p, p < P → g.testBit p = true → hs p ≠ 6) : NF P g hs (Nt P WL WT hs w g) := by
  obtain ⟨I, h0⟩ := Nt_end (WL := WL) (WT := WT) (w := w) hP hg (fun p hp hb => (b1 p hp).2 (h6 p hp hb)) (fun p q hp hq hb1 hb2 e => b2 p hp q hq e (h6 p hp hb1))
  refine ⟨h0, I, fun p => ?_, two_lt hP (sub_lt hP I.rgg I.gP)⟩
  cases e : (Nt P WL WT hs w g).2.1.testBit p with
  | false => exact Or.inl (I.gt6 p e)
  | true =>
    obtain ⟨p', h1, h2⟩ := I.gtr p e
    have h3 := I.rgg p' h1
    exact Or.inr (by rw [h2]; exact I.hgl p' (bit_lt hg h3) h3)
theorem now_p {P g c : Nat} {hs bt WT : Nat → Nat} {base now : Nat → Int32} {R : NS} (F : NF P g hs R) (M : MN P g hs bt WT c base R now) {p : Nat} (hp : p < P) : now p = nI (if g.testBit p then R.2.2.2 p else hs p) := by
  rw [M.pp p hp, F.s0, Nat.zero_testBit, Bool.not_false, Bool.and_true]
theorem isWithin_e {ρ : Type} (N : Nat) {t A : Nat} (ht : t < 2 ^ 31) (k : Int32 → Option ρ) : f_X7_isWithin N (nI t) (nI A) k = if dif t A = 0 then k 1 else k 0 := by
  unfold f_X7_isWithin
  rw [andn A ht]
  have := dif_le t A
  by_cases e : dif t A = 0
  · rw [if_pos e, e, if_pos (show nI 0 = (0 : Int32) from rfl)]
  · rw [if_neg e, if_neg (nI_ne0 (Nat.pos_of_ne_zero e) (by omega))]
theorem within_if {α : Type} {t A : Nat} (ht : t < 2 ^ 31) (x y : α) : (if (nI t &&& (nI A ^^^ (-1))) = 0 then x else y) = if dif t A = 0 then x else y := by
  rw [andn A ht]
  have := dif_le t A
  by_cases e : dif t A = 0
  · rw [if_pos e, e, if_pos (show nI 0 = (0 : Int32) from rfl)]
  · rw [if_neg e, if_neg (nI_ne0 (Nat.pos_of_ne_zero e) (by omega))]
theorem dif_0_sub {t A : Nat} (h : dif t A = 0) : sub t A := fun i hi => by
  have := dif_bit t A i
  rw [h, Nat.zero_testBit, hi] at this
  simpa using this.symm
theorem able_6 {P : Nat} {hs lf : Nat → Nat} {t : Nat} (h : sub t (ableS P hs lf)) : ∀ p, p < P → t.testBit p = true → hs p ≠ 6 := fun p hp hb => by
  have := h p hb
  rw [ableS_bit hp, Bool.and_eq_true_iff, decide_eq_true_eq] at this
  exact this.1
set_option maxHeartbeats 2000000 in
theorem st_would {N : Nat} (hN : 200000 ≤ N) : St_would N Rel := by
  intro x_told x_marks xs_length xs_place xs_tokenPlace xs_token xs_value xs_lawTold xsd_size xsd_law xsd_weight xsd_nights xsd_wanted xsd_wantCount xsd_wantBits xs_letters xp_size xp_law xp_weight xp_nights xp_wanted xp_wantCount xp_wantBits xh_bitCount xh_given xh_made xh_gone xh_law xh_has xh_left xh_bits xy_next xy_known xyr_has xyr_left xyr_bits xyr_bitCount xyr_given xyr_made xyr_gone xyr_law x_kept xk_left xk_lumpCount xk_ringed xk_gave xk_giver xk_aims xk_got xk_lumps xg_hours xg_best xu_sums xu_hours x_toldSet x_toldWho x_toldHour xm_has xm_left xm_bits xm_bitCount xm_given xm_made xm_gone xm_law m_people m_known m_toldMany m_trace m_texted m_cursor m_start m_token m_number m_isWrong m_items m_saidPeople m_saidLaw m_ringed m_lumps m_weight m_wants m_wantsMany m_st m_was m_images m_isKept m_told m_text m_saidWeight m_saidNights m_saidWants m_saidMany m_now m_gave m_at m_way m_bestWay m_made a1 hR
  obtain ⟨P, WL, WT, ht, hp, ha, hy, hi, ho, hm, hg⟩ := hR
  have hp' := hp
  have ha' := ha
  obtain ⟨hP, rfl, rfl, hw, hl⟩ := hp
  obtain ⟨hs, lf, bt, g, c, n, w, b1, b2, b3, b4, ⟨g1, rfl, g3, g4⟩, ⟨c1, c2, c3, c4⟩, b7, ⟨n1, n2, n3⟩, ⟨w1, rfl, w3⟩⟩ := ha
  have hG := two_lt hP g1
  unfold f_X7_would f_X8_would
  rcases pk_ix a1 (n := P) (by omega) with h | h | ⟨p, hp1, rfl⟩
  · rw [knows_no N (Or.inl h), isPerson_no N hP (Or.inl h), if00, if00]; exact ⟨_, _, _, _, _, _, _, _, _, _, _, _, _, _, rfl, rfl, P, WL, WT, ht, hp', ha', hy, hi, ho, hm, hg⟩
  · rw [knows_no N (Or.inr h), isPerson_no N hP (Or.inr h), if00, if00]; exact ⟨_, _, _, _, _, _, _, _, _, _, _, _, _, _, rfl, rfl, P, WL, WT, ht, hp', ha', hy, hi, ho, hm, hg⟩
  rw [knows_yes N (by omega) hp1, isPerson_yes N hP hp1, if10, if10, i12, ck_t, c12, g3, holds_n N (by omega) (by omega), has_n N (by omega) (by omega), b01, b01]
  cases hb : g.testBit p with
  | false => exact ⟨_, _, _, _, _, _, _, _, _, _, _, _, _, _, rfl, rfl, P, WL, WT, ht, hp', ha', hy, hi, ho, hm, hg⟩
  | true =>
    have h6 : ∀ p, p < P → g.testBit p = true → hs p ≠ 6 := fun p hp hb => (g4 p hp hb).1
    obtain ⟨x1, x2, x3, x4, x5, e1, e2, e3⟩ := playX hN (Rp_HX hp') w1 b1 b2 g1 h6 xk_giver xk_got xk_gave xk_aims xk_lumps
    obtain ⟨y1, y2, y3, f1, f2⟩ := goesM hN (bt := bt) (Rp_HM hp') c1 w1 b1 b2 c3 (fun k hk => (c4 k hk).2.2.2) g1 h6 m_now m_gave m_at
    have F := NtF (WL := WL) (WT := WT) (w := w) hP (fun p hp => ⟨(b1 p hp).1, (b1 p hp).2.1⟩) b2 g1 h6
    have hnow := now_p F f2 hp1
    rw [hb, if_pos rfl] at hnow
    rw [if_pos rfl, if_pos rfl, asIt_e hN, e1, ck_t, i24, ck_t, c24, w3, f1, Int32.zero_add, ivi_n (show p < 6 by omega) (by decide), ck_t, ivi_n (show p < 25 by omega) (by decide), ck_t, ck_t, cl (by omega), hnow, e2 p (by omega)]
    unfold enc9
    rcases F.gtP p with h | h
    · rw [h, if_pos rfl, if_pos (show nI 6 = (6 : Int32) from rfl)]
      exact ⟨_, _, _, _, _, _, _, _, _, _, _, _, _, _, rfl, rfl, P, WL, WT, ht, hp', ha', hy, hi, ho, hm, hg⟩
    · rw [if_neg (by omega), if_neg (show ¬ nI ((Nt P WL WT hs w g).2.2.2 p) = (6 : Int32) from fun q => by have := inj_n (b := 6) (by omega) (by decide) q; omega)]
      exact ⟨_, _, _, _, _, _, _, _, _, _, _, _, _, _, rfl, rfl, P, WL, WT, ht, hp', ha', hy, hi, ho, hm, hg⟩
theorem all_M {ρ : Type} (N : Nat) {P : Nat} (hP : P ≤ 6) (k : Int32 → Option ρ) : f_X8_all N (nI P) k = k (nI (2 ^ P - 1)) := by
  unfold f_X8_all; rw [all_e hP]
set_option maxHeartbeats 2000000 in
theorem st_served {N : Nat} (hN : 200000 ≤ N) : St_served N Rel := by
  intro x_told x_marks xs_length xs_place xs_tokenPlace xs_token xs_value xs_lawTold xsd_size xsd_law xsd_weight xsd_nights xsd_wanted xsd_wantCount xsd_wantBits xs_letters xp_size xp_law xp_weight xp_nights xp_wanted xp_wantCount xp_wantBits xh_bitCount xh_given xh_made xh_gone xh_law xh_has xh_left xh_bits xy_next xy_known xyr_has xyr_left xyr_bits xyr_bitCount xyr_given xyr_made xyr_gone xyr_law x_kept xk_left xk_lumpCount xk_ringed xk_gave xk_giver xk_aims xk_got xk_lumps xg_hours xg_best xu_sums xu_hours x_toldSet x_toldWho x_toldHour xm_has xm_left xm_bits xm_bitCount xm_given xm_made xm_gone xm_law m_people m_known m_toldMany m_trace m_texted m_cursor m_start m_token m_number m_isWrong m_items m_saidPeople m_saidLaw m_ringed m_lumps m_weight m_wants m_wantsMany m_st m_was m_images m_isKept m_told m_text m_saidWeight m_saidNights m_saidWants m_saidMany m_now m_gave m_at m_way m_bestWay m_made a1 hR
  obtain ⟨P, WL, WT, ht, hp, ha, hy, hi, ho, hm, hg⟩ := hR
  have hp' := hp
  have ha' := ha
  obtain ⟨hP, rfl, rfl, hw, hl⟩ := hp
  obtain ⟨hs, lf, bt, g, c, n, w, b1, b2, b3, b4, ⟨g1, rfl, g3, g4⟩, ⟨c1, c2, c3, c4⟩, b7, ⟨n1, n2, n3⟩, ⟨w1, rfl, w3⟩⟩ := ha
  unfold f_X7_served f_X8_served
  have h64 := pow6 hP
  rw [isSetOf_e, all_M N hP, in_w, all_e hP]
  rcases win a1 (b := nI (2 ^ P - 1)) (n := 2 ^ P - 1) rfl (by omega) with hw2 | ⟨s, hs1, rfl, q1, q2⟩
  · rw [within_no N hw2, within_no N hw2, if00, if00]
    exact ⟨_, _, _, _, _, _, _, _, _, _, _, _, _, _, rfl, rfl, P, WL, WT, ht, hp', ha', hy, hi, ho, hm, hg⟩
  have hs2 := pred_two hs1
  rw [within_yes N q1 q2, within_yes N q1 q2, if10, if10, ableX hN hP (fun q hq => ⟨(b1 q hq).1, (b1 q hq).2.2.1⟩) (fun q hq => ⟨(b4 q hq).1, (b4 q hq).2.1⟩) (fun q q1 q2 => (b3 q q1 q2).1), ableM hN hP (fun q hq => ⟨(b1 q hq).1, (b1 q hq).2.2.2⟩) (fun q hq => ⟨(b4 q hq).1, (b4 q hq).2.2⟩), isWithin_e N (by omega), within_if (by omega)]
  by_cases e : dif s (ableS P hs lf) = 0
  · rw [if_pos e, if_pos e, if10]
    have h6 := able_6 (dif_0_sub e)
    obtain ⟨x1, x2, x3, x4, x5, e1, e2, e3⟩ := playX hN (Rp_HX hp') w1 b1 b2 hs2 h6 xk_giver xk_got xk_gave xk_aims xk_lumps
    obtain ⟨y1, y2, y3, f1, f2⟩ := goesM hN (bt := bt) (Rp_HM hp') c1 w1 b1 b2 c3 (fun k hk => (c4 k hk).2.2.2) hs2 h6 m_now m_gave m_at
    have F := NtF (WL := WL) (WT := WT) (w := w) hP (fun p hp => ⟨(b1 p hp).1, (b1 p hp).2.1⟩) b2 hs2 h6
    have hr := F.r64
    unfold f_X7_servedOf
    rw [asIt_e hN, e1, i24, ck_t, c24, w3, f1, bc_e N (by omega), bits_e hN (by omega)]
    exact ⟨_, _, _, _, _, _, _, _, _, _, _, _, _, _, rfl, rfl, P, WL, WT, ht, hp', ha', hy, hi, ho, hm, hg⟩
  · rw [if_neg e, if_neg e, if00]
    exact ⟨_, _, _, _, _, _, _, _, _, _, _, _, _, _, rfl, rfl, P, WL, WT, ht, hp', ha', hy, hi, ho, hm, hg⟩
/-- the night comes true -/
theorem pass_l2 {N : Nat} {g : Nat} (hg : g < 64) {got left has : Nat → Int32} : ∀ (d i n : Nat) (zl zh : Nat → Int32), i + d = 6 → d < n → (∀ p, p < 6 → zl p = (if g.testBit p && decide (p < i) then left p - 1 else left p) ∧ zh p = if g.testBit p && decide (p < i) then got p else has p) → ∃ zl' zh', (∀ (ρ : Type) (k : (Nat → Int32) → (Nat → Int32) → Option ρ), f_X0_pass_l2 (nI g) got k N n (nI i) zl zh = k zl' zh') ∧ ∀ p, p < 6 → zl' p = (if g.testBit p then left p - 1 else left p) ∧ zh' p = if g.testBit p then got p else has p := by
  intro d
  induction d with
  | zero =>
    intro i n zl zh h1 hn hz
    obtain ⟨n, rfl⟩ := succ_of hn
    obtain rfl : i = 6 := by omega
    refine ⟨zl, zh, fun ρ k => by rw [f_X0_pass_l2, if_pos (show (6 : Int32) ≤ nI 6 by decide)], fun p hp => ?_⟩
    have := hz p hp
    rw [decide_eq_true hp, Bool.and_true] at this
    exact this
  | succ d ih =>
    intro i n zl zh h1 hn hz
    obtain ⟨n, rfl⟩ := succ_of hn
    cases hb : g.testBit i with
    | false =>
      obtain ⟨zl', zh', e1, e2⟩ := ih (i + 1) n zl zh (by omega) (by omega) (fun p hp => by
        by_cases e : p = i
        · subst e
          have := hz p hp
          rw [hb, Bool.false_and] at this ⊢
          exact this
        · have := hz p hp
          rw [decide_eq_decide.mpr (show p < i + 1 ↔ p < i by omega)]
          exact this)
      refine ⟨zl', zh', fun ρ k => ?_, e2⟩
      rw [f_X0_pass_l2, if_neg (show ¬ (6 : Int32) ≤ nI i from nI_ge (b := 6) (by omega) (by omega)), holds_n N (by omega) (by omega), b01, hb, nI_1]
      exact e1 ρ k
    | true =>
      obtain ⟨zl', zh', e1, e2⟩ := ih (i + 1) n (upd zl i (zl i - 1)) (upd zh i (got i)) (by omega) (by omega) (fun p hp => by
        by_cases e : p = i
        · subst e
          have := (hz p hp).1
          rw [decide_eq_false (Nat.lt_irrefl p), Bool.and_false] at this
          rw [upd_s, upd_s, hb, decide_eq_true (Nat.lt_succ_self p), Bool.and_true, if_pos rfl, if_pos rfl, this]
          exact ⟨rfl, rfl⟩
        · have := hz p hp
          rw [upd_n e, upd_n e, decide_eq_decide.mpr (show p < i + 1 ↔ p < i by omega)]
          exact this)
      refine ⟨zl', zh', fun ρ k => ?_, e2⟩
      rw [f_X0_pass_l2, if_neg (show ¬ (6 : Int32) ≤ nI i from nI_ge (b := 6) (by omega) (by omega)), holds_n N (by omega) (by omega), b01, hb, if_pos rfl, ivi_n (show i < 6 by omega) (by decide), ck_t, ck_t, ck_t, ck_t, cl (by omega), nI_1]
      exact e1 ρ k
theorem pass_l49 {P c : Nat} (hP : P ≤ 6) (hc : c ≤ 8) {L : List Nat} (hL6 : L.length ≤ 6) (hLP : ∀ h, h ∈ L → h < P) {WT bt : Nat → Nat} {weight lumps : Nat → Int32} (hwt : ∀ p, p < P → weight p = nI (WT p)) (hlu : ∀ i, i < L.length → lumps i = nI (L.getD i 0)) : ∀ (d i n : Nat) (z : Nat → Int32), c + i + d = min 8 (c + L.length) → d < n → (∀ k, k < c + i → z k = nI (bitsF bt WT c L k)) → ∃ z', (∀ (ρ : Type) (k : Int32 → (Nat → Int32) → Option ρ), f_X0_pass_l49 (nI L.length) lumps weight k n (nI i) (nI (c + i)) z = k (nI (min 8 (c + L.length))) z') ∧ ∀ k, k < min 8 (c + L.length) → z' k = nI (bitsF bt WT c L k) := by
  intro d
  induction d with
  | zero =>
    intro i n z h1 hn hz
    obtain ⟨n, rfl⟩ := succ_of hn
    refine ⟨z, fun ρ k => ?_, fun k hk => hz k (by omega)⟩
    rw [f_X0_pass_l49]
    by_cases e : L.length ≤ i
    · rw [if_pos (nI_le e (by omega))]; congr 2
    · rw [if_neg (nI_ge (by omega) (by omega)), if_pos (show (8 : Int32) ≤ nI (c + i) from nI_le (a := 8) (by omega) (by omega))]; congr 2
  | succ d ih =>
    intro i n z h1 hn hz
    obtain ⟨n, rfl⟩ := succ_of hn
    have hi : i < L.length := by omega
    have hm := hLP _ (getD_mem hi)
    obtain ⟨z', e1, e2⟩ := ih (i + 1) n (upd z (c + i) (nI (WT (L.getD i 0)))) (by omega) (by omega) (fun k hk => by
      by_cases e : k = c + i
      · subst e
        rw [upd_s]
        unfold bitsF
        rw [if_neg (by omega), show c + i - c = i by omega]
      · rw [upd_n e]; exact hz k (by omega))
    refine ⟨z', fun ρ k => ?_, e2⟩
    rw [f_X0_pass_l49, if_neg (nI_ge hi (by omega)), if_neg (show ¬ (8 : Int32) ≤ nI (c + i) from nI_ge (b := 8) (by omega) (by omega)), ivi_n (show i < 6 by omega) (by decide), ck_t, cl (show i < 2 ^ 31 by omega), hlu i hi, ivi_n (show L.getD i 0 < 6 by omega) (by decide), ck_t, ivi_n (show c + i < 8 by omega) (by decide), ck_t, cl (show L.getD i 0 < 2 ^ 31 by omega), hwt _ hm, cl (show c + i < 2 ^ 31 by omega), nI_1, nI_1]
    exact e1 ρ k
theorem night_l44 {P g : Nat} (hP : P ≤ 6) (hg : g < 64) {st base : Nat → Int32} {lf : Nat → Nat} (h12 : st 12 = nI g) (hlf : ∀ p, p < P → g.testBit p = true → 0 < lf p) : ∀ (d i n : Nat) (z : Nat → Int32), i + d = P → d < n → (∀ p, p < P → z (6 + p) = nI (if g.testBit p && decide (p < i) then lf p - 1 else lf p)) → (∀ k, k < 6 ∨ 12 ≤ k → z k = base k) → ∃ z', (∀ (ρ : Type) (k : (Nat → Int32) → Option ρ), f_X8_night_l44 st (nI P) k n (nI i) z = k z') ∧ (∀ p, p < P → z' (6 + p) = nI (if g.testBit p then lf p - 1 else lf p)) ∧ ∀ k, k < 6 ∨ 12 ≤ k → z' k = base k := by
  intro d
  induction d with
  | zero =>
    intro i n z h1 hn hz hb
    obtain ⟨n, rfl⟩ := succ_of hn
    obtain rfl : i = P := by omega
    refine ⟨z, fun ρ k => by rw [f_X8_night_l44, if_pos (nI_le (Nat.le_refl _) (by omega))], fun p hp => ?_, hb⟩
    have := hz p hp
    rw [decide_eq_true hp, Bool.and_true] at this
    exact this
  | succ d ih =>
    intro i n z h1 hn hz hb
    obtain ⟨n, rfl⟩ := succ_of hn
    have hzi := hz i (by omega)
    rw [decide_eq_false (Nat.lt_irrefl i), Bool.and_false] at hzi
    obtain ⟨z', e1, e2⟩ := ih (i + 1) n (upd z (6 + i) (z (6 + i) - nI (if g.testBit i then 1 else 0))) (by omega) (by omega) (fun p hp => by
        by_cases e : p = i
        · subst e
          rw [upd_s, hzi, decide_eq_true (Nat.lt_succ_self p), Bool.and_true]
          cases hb2 : g.testBit p with
          | false => exact pk_sub (Nat.zero_le _)
          | true => exact pk_sub (hlf p hp hb2)
        · have := hz p hp
          rw [upd_n (by omega), decide_eq_decide.mpr (show p < i + 1 ↔ p < i by omega)]
          exact this) (fun k hk => by rw [upd_n (by omega)]; exact hb k hk)
    refine ⟨z', fun ρ k => ?_, e2⟩
    rw [f_X8_night_l44, if_neg (nI_ge (by omega) (by omega)), show (6 : Int32) + nI i = nI (6 + i) from nI_add 6 i, ivi_n (show 6 + i < 25 by omega) (by decide), ck_t, i12, ck_t, ck_t, c12, h12, bit1 (by omega) (by omega), cl (by omega), nI_1]
    exact e1 ρ k
set_option maxHeartbeats 2000000 in
theorem st_night {N : Nat} (hN : 200000 ≤ N) : St_night N Rel := by
  intro x_told x_marks xs_length xs_place xs_tokenPlace xs_token xs_value xs_lawTold xsd_size xsd_law xsd_weight xsd_nights xsd_wanted xsd_wantCount xsd_wantBits xs_letters xp_size xp_law xp_weight xp_nights xp_wanted xp_wantCount xp_wantBits xh_bitCount xh_given xh_made xh_gone xh_law xh_has xh_left xh_bits xy_next xy_known xyr_has xyr_left xyr_bits xyr_bitCount xyr_given xyr_made xyr_gone xyr_law x_kept xk_left xk_lumpCount xk_ringed xk_gave xk_giver xk_aims xk_got xk_lumps xg_hours xg_best xu_sums xu_hours x_toldSet x_toldWho x_toldHour xm_has xm_left xm_bits xm_bitCount xm_given xm_made xm_gone xm_law m_people m_known m_toldMany m_trace m_texted m_cursor m_start m_token m_number m_isWrong m_items m_saidPeople m_saidLaw m_ringed m_lumps m_weight m_wants m_wantsMany m_st m_was m_images m_isKept m_told m_text m_saidWeight m_saidNights m_saidWants m_saidMany m_now m_gave m_at m_way m_bestWay m_made hR
  obtain ⟨P, WL, WT, ht, hp, ha, hy, hi, ho, hm, hg⟩ := hR
  have hp' := hp
  have ha' := ha
  obtain ⟨hP, rfl, rfl, hw, hl⟩ := hp
  obtain ⟨hs, lf, bt, g, c, n, w, b1, b2, b3, b4, ⟨g1, rfl, g3, g4⟩, ⟨c1, rfl, c3, c4⟩, b7, ⟨n1, rfl, n3⟩, ⟨w1, rfl, w3⟩⟩ := ha
  have hG := two_lt hP g1
  unfold f_X7_night f_X8_night
  rw [i23, ck_t, c23, n3]
  by_cases e9 : n = 999
  · subst e9
    rw [if_neg (show ¬ nI 999 < (999 : Int32) by decide), if_pos (show nI 999 = (999 : Int32) from rfl)]
    exact ⟨_, _, _, _, _, _, _, _, _, _, _, _, _, _, _, _, _, _, _, _, _, _, _, _, _, _, _, _, _, _, _, _, _, rfl, rfl, P, WL, WT, ht, hp', ha', hy, hi, ho, hm, hg⟩
  rw [if_pos (show nI n < (999 : Int32) from nI_lt (b := 999) (by omega) (by decide)), if_neg (show ¬ nI n = (999 : Int32) from fun q => e9 (inj_n (b := 999) (by omega) (by decide) q))]
  obtain ⟨r1, r2, r3, r4, r5, r6, r7, r8, r9, r10, r11, r12, rx, rm, hy'⟩ := co_rem hN hP hy ha'
  rw [rx, rm]
  have h6 : ∀ p, p < P → g.testBit p = true → hs p ≠ 6 := fun p hp hb => (g4 p hp hb).1
  obtain ⟨x1, x2, x3, x4, x5, e1, e2, e3⟩ := playX hN (Rp_HX hp') w1 b1 b2 g1 h6 xk_giver xk_got xk_gave xk_aims xk_lumps
  obtain ⟨y1, y2, y3, f1, f2⟩ := goesM hN (bt := bt) (Rp_HM hp') c1 w1 b1 b2 c3 (fun k hk => (c4 k hk).2.2.2) g1 h6 m_now m_gave m_at
  have F := NtF (WL := WL) (WT := WT) (w := w) hP (fun p hp => ⟨(b1 p hp).1, (b1 p hp).2.1⟩) b2 g1 h6
  have hr := F.r64
  have hlen := F.I.len
  have hL6 : (Nt P WL WT hs w g).2.2.1.length ≤ 6 := by have := popc_le g 6; omega
  obtain ⟨zl, zh, p1, p2⟩ := pass_l2 (N := N) hG (got := x2) (left := xh_left) (has := xh_has) 6 0 N xh_left xh_has (by omega) (by omega) (fun p hp => by rw [decide_eq_false (Nat.not_lt_zero p), Bool.and_false]; exact ⟨rfl, rfl⟩)
  obtain ⟨zb, q1, q2⟩ := pass_l49 hP c1 hL6 F.I.Lg (WT := WT) (bt := bt) (fun p hp => (hw p hp).2.2.1) e3 (min 8 (c + (Nt P WL WT hs w g).2.2.1.length) - c) 0 N xh_bits (by omega) (by omega) (fun k hk => by
    unfold bitsF
    rw [if_pos (by omega)]
    exact (c4 k (by omega)).2.2.1)
  obtain ⟨zn, u1, u2, u3⟩ := night_l44 hP hG (st := m_st) (base := y1) (lf := lf) g3 (fun p hp hb => (g4 p hp hb).2) P 0 N y1 (by omega) (by omega) (fun p hp => by
    rw [decide_eq_false (Nat.not_lt_zero p), Bool.and_false, f2.oth (6 + p) (by omega), asIt_at _ _ (by omega)]
    exact (b4 p hp).2.2) (fun k _ => rfl)
  have p1' : ∀ (ρ : Type) (k : (Nat → Int32) → (Nat → Int32) → Option ρ), f_X0_pass_l2 (nI g) x2 k N N 0 xh_left xh_has = k zl zh := p1
  have q1' : ∀ (ρ : Type) (k : Int32 → (Nat → Int32) → Option ρ), f_X0_pass_l49 (nI (Nt P WL WT hs w g).2.2.1.length) x5 xp_weight k N 0 (nI c) xh_bits = k (nI (min 8 (c + (Nt P WL WT hs w g).2.2.1.length))) zb := q1
  have u1' : ∀ (ρ : Type) (k : (Nat → Int32) → Option ρ), f_X8_night_l44 m_st (nI P) k N 0 y1 = k zn := u1
  have hpass : ∀ (ρ : Type) (k : Int32 → Int32 → Int32 → (Nat → Int32) → (Nat → Int32) → (Nat → Int32) → Option ρ), f_X0_pass N (nI c) (nI g) (nI n) xh_left (nI (Nt P WL WT hs w g).2.2.1.length) x2 xh_has x5 xp_weight xh_bits k = k (nI (min 8 (c + (Nt P WL WT hs w g).2.2.1.length))) 0 (nI (n + 1)) zl zh zb := fun ρ k => by
    unfold f_X0_pass f_X0_pass_e47 f_X0_pass_e102
    rw [p1', q1', nI_1]
  rw [e1, hpass, bc_e N (by omega), asIt_e hN, i12, ck_t, i24, ck_t, c12, c24, g3, w3, f1, u1']
  unfold f_X8_night_e81
  rw [i12, ck_t, i23, ck_t, ck_t, c12, c23, upd_n (f := zn) (show (23 : Nat) ≠ 12 by decide), u3 23 (by omega), f2.oth 23 (by omega), asIt_at _ _ (by omega), n3, nI_1]
  have hcp : ∀ (ρ : Type) (k : (Nat → Int32) → Option ρ), f_X8_copy N (upd (upd zn 12 0) 23 (nI (n + 1))) m_st 25 25 0 0 k = k (blt m_st (upd (upd zn 12 0) 23 (nI (n + 1))) 0 0 25) := fun ρ k => copy_e hN _ _ (a := 0) (b := 0) (by decide) (by decide) (by decide) (by decide) k
  rw [hcp, bits_e hN (by omega)]
  refine ⟨_, _, _, _, _, _, _, _, _, _, _, _, _, _, _, _, _, _, _, _, _, _, _, _, _, _, _, _, _, _, _, _, _, rfl, rfl, P, WL, WT, ht, hp', ?_, hy', hi, ho, hm, hg⟩
  have hx : ∀ p, p < P → g.testBit p = true → (Nt P WL WT hs w g).2.2.2 p ≠ 6 → (Nt P WL WT hs w g).2.1.testBit p = true := fun p _ _ h => by
    cases e : (Nt P WL WT hs w g).2.1.testBit p with
    | true => rfl
    | false => exact absurd (F.I.gt6 p e) h
  have hcross : ∀ p q, p < P → q < P → g.testBit p = true → g.testBit q = false → (Nt P WL WT hs w g).2.2.2 p ≠ 6 → (Nt P WL WT hs w g).2.2.2 p ≠ hs q := fun p q hp hq hb1 hb2 h6' e => by
    obtain ⟨p', h1, h2⟩ := F.I.gtr p (hx p hp hb1 h6')
    have h3 := F.I.rgg p' h1
    have := b2 q hq p' (bit_lt g1 h3) (by rw [← e, h2]) (by rw [← e]; exact h6')
    subst this
    rw [hb2] at h3
    exact absurd h3 (by decide)
  refine ⟨fun p => if g.testBit p then (Nt P WL WT hs w g).2.2.2 p else hs p, fun p => if g.testBit p then lf p - 1 else lf p, bitsF bt WT c (Nt P WL WT hs w g).2.2.1, 0, min 8 (c + (Nt P WL WT hs w g).2.2.1.length), n + 1, w, fun p hp => ?_, fun p hp q hq e h6' => ?_, fun p hp1 hp2 => ?_, fun p hp => ?_, ⟨Nat.two_pow_pos P, rfl, ?_, fun p hp hb => ?_⟩, ⟨by omega, rfl, ?_, fun k hk => ?_⟩, ?_, ⟨by omega, rfl, ?_⟩, ⟨w1, rfl, ?_⟩⟩
  · dsimp only
    rw [(p2 p (by omega)).2, asIt_at _ _ (by omega), upd_n (by omega), upd_n (by omega), u3 p (by omega), now_p F f2 hp]
    by_cases hb : g.testBit p = true
    · simp only [if_pos hb]
      rw [e2 p (by omega)]
      refine ⟨by have := F.gtP p; omega, fun h => (F.gtP p).resolve_left h, rfl, trivial⟩
    · simp only [if_neg hb]
      exact ⟨(b1 p hp).1, (b1 p hp).2.1, (b1 p hp).2.2.1, trivial⟩
  · dsimp only at e h6'
    cases hb1 : g.testBit p with
    | true =>
      rw [hb1, if_pos rfl] at e h6'
      cases hb2 : g.testBit q with
      | true =>
        rw [hb2, if_pos rfl] at e
        exact F.I.gti p q (hx p hp hb1 h6') (hx q hq hb2 (by rw [← e]; exact h6')) e
      | false =>
        rw [hb2, if_neg (by decide)] at e
        exact absurd e (hcross p q hp hq hb1 hb2 h6')
    | false =>
      rw [hb1, if_neg (by decide)] at e h6'
      cases hb2 : g.testBit q with
      | true =>
        rw [hb2, if_pos rfl] at e
        exact absurd e.symm (hcross q p hq hp hb2 hb1 (by rw [← e]; exact h6'))
      | false =>
        rw [hb2, if_neg (by decide)] at e
        exact b2 p hp q hq e h6'
  · have := p2 p hp2
    rw [bit_out g1 hp1] at this
    rw [this.1, this.2]
    exact b3 p hp1 hp2
  · dsimp only
    rw [(p2 p (by omega)).1, asIt_at _ _ (by omega), upd_n (by omega), upd_n (by omega), u2 p hp]
    by_cases hb : g.testBit p = true
    · simp only [if_pos hb]
      have h1 := b4 p hp
      have h2 := (g4 p hp hb).2
      rw [h1.2.1, nI_sub1 h2]
      exact ⟨by omega, rfl, trivial⟩
    · simp only [if_neg hb]
      have h1 := b4 p hp
      exact ⟨h1.1, h1.2.1, trivial⟩
  · rw [asIt_at _ _ (by omega), upd_n (by omega), upd_s]; rfl
  · rw [Nat.zero_testBit] at hb; exact absurd hb (by decide)
  · rw [asIt_at _ _ (by omega), upd_n (by omega), upd_n (by omega), u3 13 (by omega)]; exact f2.n13
  · rw [asIt_at _ _ (by omega), upd_n (by omega), upd_n (by omega), u3 (14 + k) (by omega), f2.bb k hk, q2 k hk]
    refine ⟨?_, ?_, rfl, rfl⟩
    · unfold bitsF
      by_cases h : k < c
      · rw [if_pos h]; exact (c4 k h).1
      · rw [if_neg h]; exact (hw _ (F.I.Lg _ (getD_mem (by omega)))).1
    · unfold bitsF
      by_cases h : k < c
      · rw [if_pos h]; exact (c4 k h).2.1
      · rw [if_neg h]; exact (hw _ (F.I.Lg _ (getD_mem (by omega)))).2.1
  · rw [asIt_at _ _ (by omega), upd_n (by omega), upd_n (by omega), u3 22 (by omega), f2.oth 22 (by omega), asIt_at _ _ (by omega)]; exact b7
  · rw [asIt_at _ _ (by omega), upd_s]
  · rw [asIt_at _ _ (by omega), upd_n (by omega), upd_n (by omega), u3 24 (by omega), f2.oth 24 (by omega), asIt_at _ _ (by omega)]; exact w3

