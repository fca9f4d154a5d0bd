/-! 36.most: get, most -/
theorem popc_68 {g : Nat} (h : g < 64) : popc g 8 = popc g 6 := by
  rw [popc, popc, bit_out (P := 6) h (show 6 ≤ 7 by omega), bit_out (P := 6) h (show 6 ≤ 6 by omega)]
  simp
def encB (b : Nat) : Int32 := if b = 64 then -9 else nI b
def fewB (b : Nat) : Nat := if b = 64 then 7 else popc b 8
def gF (ok : Nat → Bool) : Nat → Nat → Nat → Nat
  | 0, b, _ => b
  | d + 1, b, i => gF ok d (if ok i && decide (popc i 8 < fewB b) then i else b) (i + 1)
def okG (P : Nat) (WL : Nat → List Nat) (WT hs lf : Nat → Nat) (w p h i : Nat) : Bool := i.testBit p && (decide (dif i (ableS P hs lf) = 0) && decide ((Nt P WL WT hs w i).2.2.2 p = h))
theorem enc9_eq {a h P : Nat} (hP : P ≤ 6) (ha : a = 6 ∨ a < P) (hh : h < P) : enc9 a = nI h ↔ a = h := by
  unfold enc9
  by_cases e : a = 6
  · rw [if_pos e]
    exact ⟨fun q => absurd q (m9 (by omega)), fun q => by omega⟩
  · rw [if_neg e]
    exact ⟨fun q => inj_n (by omega) (by omega) q, fun q => by rw [q]⟩
theorem getX_l43 {N : Nat} (hN : 200000 ≤ N) {P : Nat} {WL : Nat → List Nat} {WT hs lf : Nat → Nat} {wc : Nat → Int32} {wanted : Nat → Nat → Int32} {weight : Nat → Int32} (H : HX P WL WT wc wanted weight) {w : Nat} (hw : w ≤ 2) {has st : Nat → Int32} (b1 : ∀ p, p < P → hs p ≤ 6 ∧ (hs p ≠ 6 → hs p < P) ∧ has p = (if hs p = 6 then -9 else nI (hs p)) ∧ st p = nI (hs p)) (b2 : ∀ p, p < P → ∀ q, q < P → hs p = hs q → hs p ≠ 6 → p = q) {p h : Nat} (hp : p < P) (hh : h < P) : ∀ (d b i n : Nat) (kl kc kr : Int32) (giver got gave aims lumps : Nat → Int32), i + d = 2 ^ P → d < n → (b = 64 ∨ b < 64) → ∃ kl' kc' kr' giver' got' gave' aims' lumps', ∀ (ρ : Type) (k : Int32 → Int32 → Int32 → Int32 → (Nat → Int32) → (Nat → Int32) → (Nat → Int32) → (Nat → Int32) → (Nat → Int32) → Option ρ), f_X7_get_l43 (nI p) (nI h) (nI P) (nI w) has wc wanted weight (nI (ableS P hs lf)) k N n (encB b) (nI (fewB b)) (nI i) kl kc kr giver got gave aims lumps = k (encB (gF (okG P WL WT hs lf w p h) d b i)) kl' kc' kr' giver' got' gave' aims' lumps' := by
  have hP := H.hP
  have h64 := pow6 hP
  intro d
  induction d with
  | zero =>
    intro b i n kl kc kr giver got gave aims lumps h1 hn hb
    obtain ⟨n, rfl⟩ := succ_of hn
    exact ⟨kl, kc, kr, giver, got, gave, aims, lumps, fun ρ k => by rw [f_X7_get_l43, sh1 P (by omega), if_pos (nI_le (by omega) (by omega))]; rfl⟩
  | succ d ih =>
    intro b i n kl kc kr giver got gave aims lumps h1 hn hb
    obtain ⟨n, rfl⟩ := succ_of hn
    have hi : i < 2 ^ P := by omega
    have e00 : ∀ (ρ : Type) (k : Int32 → Int32 → Int32 → Int32 → (Nat → Int32) → (Nat → Int32) → (Nat → Int32) → (Nat → Int32) → (Nat → Int32) → Option ρ), f_X7_get_l43 (nI p) (nI h) (nI P) (nI w) has wc wanted weight (nI (ableS P hs lf)) k N (n + 1) (encB b) (nI (fewB b)) (nI i) kl kc kr giver got gave aims lumps = _ := fun ρ k => by rw [f_X7_get_l43, sh1 P (by omega), if_neg (nI_ge hi (by omega)), holds_n N (by omega) (by omega), b01, isWithin_e N (by omega), bc_e N (by omega), if10, if00, nI_1]
    simp only [e00]
    rw [gF]
    have hskip : (okG P WL WT hs lf w p h i && decide (popc i 8 < fewB b)) = false → gF (okG P WL WT hs lf w p h) d (if okG P WL WT hs lf w p h i && decide (popc i 8 < fewB b) then i else b) (i + 1) = gF (okG P WL WT hs lf w p h) d b (i + 1) := fun e => by rw [e]; rfl
    have hfw : popc i 8 ≤ 8 ∧ fewB b ≤ 8 := ⟨popc_le _ _, by unfold fewB; split; omega; exact popc_le _ _⟩
    cases hbp : i.testBit p with
    | false =>
      rw [hskip (by unfold okG; rw [hbp]; rfl)]
      simp only [Bool.false_eq_true, if_false]
      exact ih b (i + 1) n kl kc kr giver got gave aims lumps (by omega) (by omega) hb
    | true =>
      simp only [if_true]
      by_cases hd : dif i (ableS P hs lf) = 0
      · simp only [if_pos hd]
        by_cases hpc : popc i 8 < fewB b
        · simp only [if_pos (nI_lt hpc (by omega) : nI (popc i 8) < nI (fewB b))]
          have h6 := able_6 (dif_0_sub hd)
          obtain ⟨x1, x2, x3, x4, x5, e1, e2, e3⟩ := playX hN H hw b1 b2 hi h6 giver got gave aims lumps
          have F := NtF (WL := WL) (WT := WT) (w := w) hP (fun p hp => ⟨(b1 p hp).1, (b1 p hp).2.1⟩) b2 hi h6
          simp only [e1, ivi_n (show p < 6 by omega) (by decide), ck_t, cl (show p < 2 ^ 31 by omega), e2 p (by omega)]
          have hq := enc9_eq hP (F.gtP p) hh
          by_cases hgt : (Nt P WL WT hs w i).2.2.2 p = h
          · have hok : (okG P WL WT hs lf w p h i && decide (popc i 8 < fewB b)) = true := by
              unfold okG; rw [hbp, decide_eq_true hd, decide_eq_true hgt, decide_eq_true hpc]; rfl
            simp only [if_pos (hq.mpr hgt)]
            rw [hok, if_pos rfl]
            obtain ⟨a1, a2, a3, a4, a5, a6, a7, a8, ea⟩ := ih i (i + 1) n 0 (nI (Nt P WL WT hs w i).2.2.1.length) (nI (Nt P WL WT hs w i).2.1) x1 x2 x3 x4 x5 (by omega) (by omega) (Or.inr (by omega))
            refine ⟨a1, a2, a3, a4, a5, a6, a7, a8, fun ρ k => ?_⟩
            have := ea ρ k
            unfold encB fewB at this
            rw [if_neg (show ¬ i = 64 by omega), if_neg (show ¬ i = 64 by omega)] at this
            unfold encB
            rw [bc_e N (by omega)]
            exact this
          · rw [hskip (by unfold okG; rw [decide_eq_false hgt, Bool.and_false, Bool.and_false]; rfl)]
            simp only [if_neg (fun q => hgt (hq.mp q))]
            exact ih b (i + 1) n 0 (nI (Nt P WL WT hs w i).2.2.1.length) (nI (Nt P WL WT hs w i).2.1) x1 x2 x3 x4 x5 (by omega) (by omega) hb
        · rw [hskip (by rw [decide_eq_false hpc, Bool.and_false])]
          simp only [if_neg (nI_nlt (by omega) (by omega) : ¬ nI (popc i 8) < nI (fewB b))]
          exact ih b (i + 1) n kl kc kr giver got gave aims lumps (by omega) (by omega) hb
      · rw [hskip (by unfold okG; rw [decide_eq_false hd, Bool.false_and, Bool.and_false]; rfl)]
        simp only [if_neg hd]
        exact ih b (i + 1) n kl kc kr giver got gave aims lumps (by omega) (by omega) hb
theorem getM_l30 {N : Nat} (hN : 200000 ≤ N) {P c : Nat} {WL : Nat → List Nat} {WT hs lf bt : Nat → Nat} {wm ws weight : Nat → Int32} (H : HM P WL WT wm ws weight) (hc : c ≤ 8) {w : Nat} (hw : w ≤ 2) {has st : Nat → Int32} (b1 : ∀ p, p < P → hs p ≤ 6 ∧ (hs p ≠ 6 → hs p < P) ∧ has p = (if hs p = 6 then -9 else nI (hs p)) ∧ st p = nI (hs p)) (b2 : ∀ p, p < P → ∀ q, q < P → hs p = hs q → hs p ≠ 6 → p = q) (h13 : st 13 = nI c) (hbt : ∀ k, k < c → st (14 + k) = nI (bt k)) (h24 : st 24 = nI w) {p h : Nat} (hp : p < P) (hh : h < P) : ∀ (d b i n : Nat) (kr kl : Int32) (now gave at_ : Nat → Int32), i + d = 2 ^ P → d < n → (b = 64 ∨ b < 64) → ∃ kr' kl' now' gave' at', ∀ (ρ : Type) (k : Int32 → Int32 → Int32 → (Nat → Int32) → (Nat → Int32) → (Nat → Int32) → Option ρ), f_X8_get_l30 (nI p) (nI h) (nI P) st wm ws weight (nI (ableS P hs lf)) k N n (encB b) (nI i) kr kl now gave at_ = k (encB (gF (okG P WL WT hs lf w p h) d b i)) kr' kl' now' gave' at' := by
  have hP := H.hP
  have h64 := pow6 hP
  have h2P := Nat.two_pow_pos P
  intro d
  induction d with
  | zero =>
    intro b i n kr kl now gave at_ h1 hn hb
    obtain ⟨n, rfl⟩ := succ_of hn
    exact ⟨kr, kl, now, gave, at_, fun ρ k => by rw [f_X8_get_l30, all_M N hP, if_pos (nI_lt (by omega) (by omega))]; rfl⟩
  | succ d ih =>
    intro b i n kr kl now gave at_ h1 hn hb
    obtain ⟨n, rfl⟩ := succ_of hn
    have hi : i < 2 ^ P := by omega
    have e00 : ∀ (ρ : Type) (k : Int32 → Int32 → Int32 → (Nat → Int32) → (Nat → Int32) → (Nat → Int32) → Option ρ), f_X8_get_l30 (nI p) (nI h) (nI P) st wm ws weight (nI (ableS P hs lf)) k N (n + 1) (encB b) (nI i) kr kl now gave at_ = _ := fun ρ k => by rw [f_X8_get_l30, all_M N hP, if_neg (nI_nlt (by omega) (by omega)), within_if (by omega), has_n N (by omega) (by omega), b01, asIt_e hN, i24, ck_t, c24, h24, nI_1]
    simp only [e00]
    rw [gF]
    have hskip : (okG P WL WT hs lf w p h i && decide (popc i 8 < fewB b)) = false → gF (okG P WL WT hs lf w p h) d (if okG P WL WT hs lf w p h i && decide (popc i 8 < fewB b) then i else b) (i + 1) = gF (okG P WL WT hs lf w p h) d b (i + 1) := fun e => by rw [e]; rfl
    have hfw : popc i 8 ≤ 6 := by rw [popc_68 (by omega)]; exact popc_le _ _
    by_cases hd : dif i (ableS P hs lf) = 0
    · simp only [if_pos hd]
      cases hbp : i.testBit p with
      | false =>
        rw [hskip (by unfold okG; rw [hbp]; rfl)]
        simp only [Bool.false_eq_true, if_false]
        exact ih b (i + 1) n kr kl now gave at_ (by omega) (by omega) hb
      | true =>
        simp only [if_true]
        have h6 := able_6 (dif_0_sub hd)
        obtain ⟨y1, y2, y3, f1, f2⟩ := goesM hN (bt := bt) H hc hw b1 b2 h13 hbt hi h6 now gave at_
        have F := NtF (WL := WL) (WT := WT) (w := w) hP (fun p hp => ⟨(b1 p hp).1, (b1 p hp).2.1⟩) b2 hi h6
        have hnow := now_p F f2 hp
        rw [hbp, if_pos rfl] at hnow
        simp only [f1, Int32.zero_add, ivi_n (show p < 25 by omega) (by decide), ck_t, cl (show p < 2 ^ 31 by omega), hnow]
        unfold f_X8_get_j104 f_X8_get_j108 f_X8_get_j109
        simp only [nI_1, if00, if10]
        by_cases hgt : (Nt P WL WT hs w i).2.2.2 p = h
        · simp only [if_pos (show nI ((Nt P WL WT hs w i).2.2.2 p) = nI h by rw [hgt])]
          rcases hb with rfl | hb
          · have hok : (okG P WL WT hs lf w p h i && decide (popc i 8 < fewB 64)) = true := by
              unfold okG; rw [hbp, decide_eq_true hd, decide_eq_true hgt, decide_eq_true (show popc i 8 < fewB 64 by have : fewB 64 = 7 := rfl; omega)]; rfl
            simp only [if_pos (show encB 64 < (0 : Int32) by decide)]
            rw [hok, if_pos rfl]
            obtain ⟨a1, a2, a3, a4, a5, ea⟩ := ih i (i + 1) n (nI (Nt P WL WT hs w i).2.1) (nI (Nt P WL WT hs w i).2.2.1.length) y1 y2 y3 (by omega) (by omega) (Or.inr (by omega))
            refine ⟨a1, a2, a3, a4, a5, fun ρ k => ?_⟩
            have := ea ρ k
            unfold encB at this
            rw [if_neg (show ¬ i = 64 by omega)] at this
            unfold encB
            exact this
          · have eb : encB b = nI b := if_neg (by omega)
            have efb : fewB b = popc b 8 := if_neg (by omega)
            have hpb := popc_le b 8
            simp only [eb, if_neg (nI_pos (show b < 2 ^ 31 by omega)), bits_e hN (show i < 2 ^ 31 by omega), bits_e hN (show b < 2 ^ 31 by omega)]
            by_cases hpc : popc i 8 < popc b 8
            · have hok : (okG P WL WT hs lf w p h i && decide (popc i 8 < fewB b)) = true := by
                unfold okG; rw [hbp, decide_eq_true hd, decide_eq_true hgt, efb, decide_eq_true hpc]; rfl
              simp only [if_neg (nI_ge hpc (by omega) : ¬ nI (popc b 8) ≤ nI (popc i 8))]
              rw [hok, if_pos rfl]
              obtain ⟨a1, a2, a3, a4, a5, ea⟩ := ih i (i + 1) n (nI (Nt P WL WT hs w i).2.1) (nI (Nt P WL WT hs w i).2.2.1.length) y1 y2 y3 (by omega) (by omega) (Or.inr (by omega))
              refine ⟨a1, a2, a3, a4, a5, fun ρ k => ?_⟩
              have := ea ρ k
              unfold encB at this
              rw [if_neg (show ¬ i = 64 by omega)] at this
              unfold encB
              exact this
            · rw [hskip (by rw [efb, decide_eq_false hpc, Bool.and_false])]
              simp only [if_pos (nI_le (by omega) (by omega) : nI (popc b 8) ≤ nI (popc i 8))]
              have := ih b (i + 1) n (nI (Nt P WL WT hs w i).2.1) (nI (Nt P WL WT hs w i).2.2.1.length) y1 y2 y3 (by omega) (by omega) (Or.inr hb)
              rw [eb] at this
              exact this
        · rw [hskip (by unfold okG; rw [decide_eq_false hgt, Bool.and_false, Bool.and_false]; rfl)]
          simp only [if_neg (show ¬ nI ((Nt P WL WT hs w i).2.2.2 p) = nI h from fun q => hgt (inj_n (by have := F.gtP p; omega) (by omega) q))]
          exact ih b (i + 1) n (nI (Nt P WL WT hs w i).2.1) (nI (Nt P WL WT hs w i).2.2.1.length) y1 y2 y3 (by omega) (by omega) hb
    · rw [hskip (by unfold okG; rw [decide_eq_false hd, Bool.false_and, Bool.and_false]; rfl)]
      simp only [if_neg hd]
      exact ih b (i + 1) n kr kl now gave at_ (by omega) (by omega) hb
set_option maxHeartbeats 2000000 in
theorem st_get {N : Nat} (hN : 200000 ≤ N) : St_get N Rel := by
  intro x_told x_marks xs_length xs_place xs_tokenPlace xs_token xs_value xs_lawTold xsd_size xsd_law xsd_weight xsd_nights xsd_wanted xsd_wantCount xsd_wantBits xs_letters xp_size xp_law xp_weight xp_nights xp_wanted xp_wantCount xp_wantBits xh_bitCount xh_given xh_made xh_gone xh_law xh_has xh_left xh_bits xy_next xy_known xyr_has xyr_left xyr_bits xyr_bitCount xyr_given xyr_made xyr_gone xyr_law x_kept xk_left xk_lumpCount xk_ringed xk_gave xk_giver xk_aims xk_got xk_lumps xg_hours xg_best xu_sums xu_hours x_toldSet x_toldWho x_toldHour xm_has xm_left xm_bits xm_bitCount xm_given xm_made xm_gone xm_law m_people m_known m_toldMany m_trace m_texted m_cursor m_start m_token m_number m_isWrong m_items m_saidPeople m_saidLaw m_ringed m_lumps m_weight m_wants m_wantsMany m_st m_was m_images m_isKept m_told m_text m_saidWeight m_saidNights m_saidWants m_saidMany m_now m_gave m_at m_way m_bestWay m_made a1 a2 hR
  obtain ⟨P, WL, WT, ht, hp, ha, hy, hi, ho, hm, hg⟩ := hR
  have hp' := hp
  have ha' := ha
  obtain ⟨hP, rfl, rfl, hw, hl⟩ := hp
  obtain ⟨hs, lf, bt, g, c, n, w, b1, b2, b3, b4, ⟨g1, rfl, g3, g4⟩, ⟨c1, c2, c3, c4⟩, b7, ⟨n1, n2, n3⟩, ⟨w1, rfl, w3⟩⟩ := ha
  have h2P := Nat.two_pow_pos P
  have h64 := pow6 hP
  unfold f_X7_get f_X8_get
  rcases pk_ix a1 (n := P) (by omega) with h | h | ⟨p, hp1, rfl⟩
  · rw [knows_no N (Or.inl h), isPerson_no N hP (Or.inl h), if00, if00]; exact ⟨_, _, _, _, _, _, _, _, _, _, _, _, _, _, rfl, rfl, P, WL, WT, ht, hp', ha', hy, hi, ho, hm, hg⟩
  · rw [knows_no N (Or.inr h), isPerson_no N hP (Or.inr h), if00, if00]; exact ⟨_, _, _, _, _, _, _, _, _, _, _, _, _, _, rfl, rfl, P, WL, WT, ht, hp', ha', hy, hi, ho, hm, hg⟩
  rw [knows_yes N (by omega) hp1, isPerson_yes N hP hp1, if10, if10]
  rcases pk_ix a2 (n := P) (by omega) with h | h | ⟨h, hh1, rfl⟩
  · rw [knows_no N (Or.inl h), isPerson_no N hP (Or.inl h), if00, if00]; exact ⟨_, _, _, _, _, _, _, _, _, _, _, _, _, _, rfl, rfl, P, WL, WT, ht, hp', ha', hy, hi, ho, hm, hg⟩
  · rw [knows_no N (Or.inr h), isPerson_no N hP (Or.inr h), if00, if00]; exact ⟨_, _, _, _, _, _, _, _, _, _, _, _, _, _, rfl, rfl, P, WL, WT, ht, hp', ha', hy, hi, ho, hm, hg⟩
  rw [knows_yes N (by omega) hh1, isPerson_yes N hP hh1, if10, if10, ableX hN hP (fun q hq => ⟨(b1 q hq).1, (b1 q hq).2.2.1⟩) (fun q hq => ⟨(b4 q hq).1, (b4 q hq).2.1⟩) (fun q q1 q2 => (b3 q q1 q2).1), ableM hN hP (fun q hq => ⟨(b1 q hq).1, (b1 q hq).2.2.2⟩) (fun q hq => ⟨(b4 q hq).1, (b4 q hq).2.2⟩)]
  obtain ⟨x1, x2, x3, x4, x5, x6, x7, x8, ex⟩ := getX_l43 hN (lf := lf) (Rp_HX hp') w1 b1 b2 hp1 hh1 (2 ^ P - 1) 64 1 N xk_left xk_lumpCount xk_ringed xk_giver xk_got xk_gave xk_aims xk_lumps (by omega) (by omega) (Or.inl rfl)
  obtain ⟨y1, y2, y3, y4, y5, ey⟩ := getM_l30 hN (lf := lf) (bt := bt) (Rp_HM hp') c1 w1 b1 b2 c3 (fun k hk => (c4 k hk).2.2.2) w3 hp1 hh1 (2 ^ P - 1 + 1) 64 0 N m_ringed m_lumps m_now m_gave m_at (by omega) (by omega) (Or.inl rfl)
  have e0 : gF (okG P WL WT hs lf w p h) (2 ^ P - 1 + 1) 64 0 = gF (okG P WL WT hs lf w p h) (2 ^ P - 1) 64 1 := by
    rw [gF]
    have : okG P WL WT hs lf w p h 0 = false := by unfold okG; rw [Nat.zero_testBit]; rfl
    rw [this]; rfl
  rw [e0] at ey
  exact ⟨_, _, _, _, _, _, _, _, _, _, _, _, _, _, ex _ _, ey _ _, P, WL, WT, ht, hp', ha', hy, hi, ho, hm, hg⟩
/-- the most that are served, over the sets from i on -/
def mF (A : Nat) (rr : Nat → Nat) : Nat → Nat × Nat → Nat → Nat × Nat
  | 0, b, _ => b
  | d + 1, b, i => mF A rr d (if decide (dif i A = 0) && (decide (b.2 < rr i) || (decide (rr i = b.2) && decide (popc i 8 < popc b.1 8))) then (i, rr i) else b) (i + 1)
def rrF (P : Nat) (WL : Nat → List Nat) (WT hs : Nat → Nat) (w i : Nat) : Nat := popc (Nt P WL WT hs w i).2.1 8
theorem rrF_le (P : Nat) (WL : Nat → List Nat) (WT hs : Nat → Nat) (w i : Nat) : rrF P WL WT hs w i ≤ 8 := popc_le _ _
theorem mostX_l27 {N : Nat} (hN : 200000 ≤ N) {P : Nat} {WL : Nat → List Nat} {WT hs lf : Nat → Nat} {wc : Nat → Int32} {wanted : Nat → Nat → Int32} {weight : Nat → Int32} (H : HX P WL WT wc wanted weight) {w : Nat} (hw : w ≤ 2) {has st : Nat → Int32} (b1 : ∀ p, p < P → hs p ≤ 6 ∧ (hs p ≠ 6 → hs p < P) ∧ has p = (if hs p = 6 then -9 else nI (hs p)) ∧ st p = nI (hs p)) (b2 : ∀ p, p < P → ∀ q, q < P → hs p = hs q → hs p ≠ 6 → p = q) : ∀ (d i n : Nat) (b : Nat × Nat) (kl kc kr : Int32) (giver got gave aims lumps : Nat → Int32), i + d = 2 ^ P → d < n → b.1 < 64 → b.2 ≤ 8 → ∃ kl' kc' kr' giver' got' gave' aims' lumps', ∀ (ρ : Type) (k : Int32 → Int32 → Int32 → Int32 → Int32 → (Nat → Int32) → (Nat → Int32) → (Nat → Int32) → (Nat → Int32) → (Nat → Int32) → Option ρ), f_X7_most_l27 (nI w) has (nI P) wc wanted weight (nI (ableS P hs lf)) k N n (nI b.1) (nI b.2) (nI i) kl kc kr giver got gave aims lumps = k (nI (mF (ableS P hs lf) (rrF P WL WT hs w) d b i).1) (nI (mF (ableS P hs lf) (rrF P WL WT hs w) d b i).2) kl' kc' kr' giver' got' gave' aims' lumps' := by
  have hP := H.hP
  have h64 := pow6 hP
  intro d
  induction d with
  | zero =>
    intro i n b kl kc kr giver got gave aims lumps h1 hn hb1 hb2
    obtain ⟨n, rfl⟩ := succ_of hn
    exact ⟨kl, kc, kr, giver, got, gave, aims, lumps, fun ρ k => by rw [f_X7_most_l27, sh1 P (by omega), if_pos (nI_le (by omega) (by omega))]; rfl⟩
  | succ d ih =>
    intro i n b kl kc kr giver got gave aims lumps h1 hn hb1 hb2
    obtain ⟨n, rfl⟩ := succ_of hn
    have hi : i < 2 ^ P := by omega
    have e00 : ∀ (ρ : Type) (k : Int32 → Int32 → Int32 → Int32 → Int32 → (Nat → Int32) → (Nat → Int32) → (Nat → Int32) → (Nat → Int32) → (Nat → Int32) → Option ρ), f_X7_most_l27 (nI w) has (nI P) wc wanted weight (nI (ableS P hs lf)) k N (n + 1) (nI b.1) (nI b.2) (nI i) kl kc kr giver got gave aims lumps = _ := fun ρ k => by rw [f_X7_most_l27, sh1 P (by omega), if_neg (nI_ge hi (by omega)), isWithin_e N (by omega), if10, if00, nI_1]
    simp only [e00]
    rw [mF]
    by_cases hd : dif i (ableS P hs lf) = 0
    · simp only [if_pos hd]
      have h6 := able_6 (dif_0_sub hd)
      obtain ⟨x1, x2, x3, x4, x5, e1, e2, e3⟩ := playX hN H hw b1 b2 hi h6 giver got gave aims lumps
      have F := NtF (WL := WL) (WT := WT) (w := w) hP (fun p hp => ⟨(b1 p hp).1, (b1 p hp).2.1⟩) b2 hi h6
      have hr := F.r64
      have hrr := rrF_le P WL WT hs w i
      have e4 : ∀ (ρ : Type) (k : Int32 → Int32 → Int32 → Int32 → (Nat → Int32) → (Nat → Int32) → (Nat → Int32) → (Nat → Int32) → (Nat → Int32) → Option ρ), f_X7_servedOf N (nI w) giver got (nI P) gave wc wanted weight aims lumps has (nI i) k = k (nI (rrF P WL WT hs w i)) 0 (nI (Nt P WL WT hs w i).2.2.1.length) (nI (Nt P WL WT hs w i).2.1) x1 x2 x3 x4 x5 := fun ρ k => by
        unfold f_X7_servedOf
        rw [e1, bc_e N (by omega)]; rfl
      have hpi := popc_le i 8
      have hpb := popc_le b.1 8
      unfold f_X7_most_j84 f_X7_most_j85 f_X7_most_j99
      simp only [e4, bc_e N (show i < 256 by omega), bc_e N (show b.1 < 256 by omega), nI_1, if00, if10]
      rw [decide_eq_true hd, Bool.true_and]
      have take := ih (i + 1) n (i, rrF P WL WT hs w i) 0 (nI (Nt P WL WT hs w i).2.2.1.length) (nI (Nt P WL WT hs w i).2.1) x1 x2 x3 x4 x5 (by omega) (by omega) (show i < 64 by omega) hrr
      have keep := ih (i + 1) n b 0 (nI (Nt P WL WT hs w i).2.2.1.length) (nI (Nt P WL WT hs w i).2.1) x1 x2 x3 x4 x5 (by omega) (by omega) hb1 hb2
      by_cases c1 : b.2 < rrF P WL WT hs w i
      · rw [decide_eq_true c1, Bool.true_or, if_pos rfl]
        simp only [if_neg (show ¬ nI (rrF P WL WT hs w i) = nI b.2 from fun q => by have := inj_n (by omega) (by omega) q; omega), if_pos (nI_lt c1 (by omega) : nI b.2 < nI (rrF P WL WT hs w i))]
        exact take
      · rw [decide_eq_false c1, Bool.false_or]
        by_cases c2 : rrF P WL WT hs w i = b.2
        · rw [decide_eq_true c2, Bool.true_and]
          simp only [if_pos (show nI (rrF P WL WT hs w i) = nI b.2 by rw [c2]), if_neg (nI_nlt (by omega) (by omega) : ¬ nI b.2 < nI (rrF P WL WT hs w i))]
          by_cases c3 : popc i 8 < popc b.1 8
          · rw [decide_eq_true c3, if_pos rfl]
            simp only [if_neg (nI_ge c3 (by omega) : ¬ nI (popc b.1 8) ≤ nI (popc i 8))]
            exact take
          · rw [decide_eq_false c3, if_neg (by decide)]
            simp only [if_pos (nI_le (by omega) (by omega) : nI (popc b.1 8) ≤ nI (popc i 8))]
            exact keep
        · rw [decide_eq_false c2, Bool.false_and, if_neg (by decide)]
          simp only [if_neg (show ¬ nI (rrF P WL WT hs w i) = nI b.2 from fun q => c2 (inj_n (by omega) (by omega) q)), if_neg (nI_nlt (by omega) (by omega) : ¬ nI b.2 < nI (rrF P WL WT hs w i))]
          exact keep
    · rw [decide_eq_false hd, Bool.false_and, if_neg (by decide)]
      simp only [if_neg hd]
      exact ih (i + 1) n b kl kc kr giver got gave aims lumps (by omega) (by omega) hb1 hb2
theorem mostM_l27 {N : Nat} (hN : 200000 ≤ N) {P c : Nat} {WL : Nat → List Nat} {WT hs lf bt : Nat → Nat} {wm ws weight : Nat → Int32} (H : HM P WL WT wm ws weight) (hc : c ≤ 8) {w : Nat} (hw : w ≤ 2) {has st : Nat → Int32} (b1 : ∀ p, p < P → hs p ≤ 6 ∧ (hs p ≠ 6 → hs p < P) ∧ has p = (if hs p = 6 then -9 else nI (hs p)) ∧ st p = nI (hs p)) (b2 : ∀ p, p < P → ∀ q, q < P → hs p = hs q → hs p ≠ 6 → p = q) (h13 : st 13 = nI c) (hbt : ∀ k, k < c → st (14 + k) = nI (bt k)) (h24 : st 24 = nI w) : ∀ (d i n : Nat) (b : Nat × Nat) (kr kl : Int32) (now gave at_ : Nat → Int32), i + d = 2 ^ P → d < n → b.1 < 64 → b.2 ≤ popc b.1 8 → ∃ kr' kl' now' gave' at', ∀ (ρ : Type) (k : Int32 → Int32 → Int32 → Int32 → (Nat → Int32) → (Nat → Int32) → (Nat → Int32) → Option ρ), f_X8_most_l27 (nI P) st wm ws weight (nI (ableS P hs lf)) k N n (nI b.1) (nI b.2) (nI (popc b.1 8 - b.2)) (nI i) kr kl now gave at_ = k (nI (mF (ableS P hs lf) (rrF P WL WT hs w) d b i).1) (nI (mF (ableS P hs lf) (rrF P WL WT hs w) d b i).2) kr' kl' now' gave' at' := by
  have hP := H.hP
  have h64 := pow6 hP
  have h2P := Nat.two_pow_pos P
  intro d
  induction d with
  | zero =>
    intro i n b kr kl now gave at_ h1 hn hb1 hb2
    obtain ⟨n, rfl⟩ := succ_of hn
    exact ⟨kr, kl, now, gave, at_, fun ρ k => by rw [f_X8_most_l27, all_M N hP, if_pos (nI_lt (by omega) (by omega))]; rfl⟩
  | succ d ih =>
    intro i n b kr kl now gave at_ h1 hn hb1 hb2
    obtain ⟨n, rfl⟩ := succ_of hn
    have hi : i < 2 ^ P := by omega
    have e00 : ∀ (ρ : Type) (k : Int32 → Int32 → Int32 → Int32 → (Nat → Int32) → (Nat → Int32) → (Nat → Int32) → Option ρ), f_X8_most_l27 (nI P) st wm ws weight (nI (ableS P hs lf)) k N (n + 1) (nI b.1) (nI b.2) (nI (popc b.1 8 - b.2)) (nI i) kr kl now gave at_ = _ := fun ρ k => by rw [f_X8_most_l27, all_M N hP, if_neg (nI_nlt (by omega) (by omega)), within_if (by omega), asIt_e hN, i24, ck_t, c24, h24, nI_1]
    simp only [e00]
    rw [mF]
    by_cases hd : dif i (ableS P hs lf) = 0
    · simp only [if_pos hd]
      have h6 := able_6 (dif_0_sub hd)
      obtain ⟨y1, y2, y3, f1, f2⟩ := goesM hN (bt := bt) H hc hw b1 b2 h13 hbt hi h6 now gave at_
      have F := NtF (WL := WL) (WT := WT) (w := w) hP (fun p hp => ⟨(b1 p hp).1, (b1 p hp).2.1⟩) b2 hi h6
      have hr := F.r64
      have hrr := rrF_le P WL WT hs w i
      have hlen := F.I.len
      rw [F.s0, popc_0, ← popc_68 hr, ← popc_68 (show i < 64 by omega)] at hlen
      have hrr2 : (Nt P WL WT hs w i).2.2.1.length = popc i 8 - rrF P WL WT hs w i ∧ rrF P WL WT hs w i ≤ popc i 8 := by unfold rrF; omega
      have hpi := popc_le i 8
      have hpb := popc_le b.1 8
      unfold f_X8_most_j94 f_X8_most_j98 f_X8_most_j99 f_X8_most_j112 f_X8_most_j125
      simp only [f1, bits_e hN (show (Nt P WL WT hs w i).2.1 < 2 ^ 31 by omega), nI_1, if00, if10]
      rw [decide_eq_true hd, Bool.true_and, hrr2.1, show popc (Nt P WL WT hs w i).2.1 8 = rrF P WL WT hs w i from rfl]
      have take := ih (i + 1) n (i, rrF P WL WT hs w i) (nI (Nt P WL WT hs w i).2.1) (nI (popc i 8 - rrF P WL WT hs w i)) y1 y2 y3 (by omega) (by omega) (show i < 64 by omega) hrr2.2
      have keep := ih (i + 1) n b (nI (Nt P WL WT hs w i).2.1) (nI (popc i 8 - rrF P WL WT hs w i)) y1 y2 y3 (by omega) (by omega) hb1 hb2
      by_cases c1 : b.2 < rrF P WL WT hs w i
      · rw [decide_eq_true c1, Bool.true_or, if_pos rfl]
        simp only [if_pos (nI_lt c1 (by omega) : nI b.2 < nI (rrF P WL WT hs w i))]
        exact take
      · rw [decide_eq_false c1, Bool.false_or]
        simp only [if_neg (nI_nlt (by omega) (by omega) : ¬ nI b.2 < nI (rrF P WL WT hs w i))]
        by_cases c2 : rrF P WL WT hs w i = b.2
        · rw [decide_eq_true c2, Bool.true_and]
          simp only [if_pos (show nI (rrF P WL WT hs w i) = nI b.2 by rw [c2])]
          by_cases c3 : popc i 8 < popc b.1 8
          · rw [decide_eq_true c3, if_pos rfl]
            simp only [if_neg (nI_ge (by omega) (by omega) : ¬ nI (popc b.1 8 - b.2) ≤ nI (popc i 8 - rrF P WL WT hs w i))]
            exact take
          · rw [decide_eq_false c3, if_neg (by decide)]
            simp only [if_pos (nI_le (by omega) (by omega) : nI (popc b.1 8 - b.2) ≤ nI (popc i 8 - rrF P WL WT hs w i))]
            exact keep
        · rw [decide_eq_false c2, Bool.false_and, if_neg (by decide)]
          simp only [if_neg (show ¬ nI (rrF P WL WT hs w i) = nI b.2 from fun q => c2 (inj_n (by omega) (by omega) q))]
          exact keep
    · rw [decide_eq_false hd, Bool.false_and, if_neg (by decide)]
      simp only [if_neg hd]
      exact ih (i + 1) n b kr kl now gave at_ (by omega) (by omega) hb1 hb2
theorem Nt_0 (P : Nat) (WL : Nat → List Nat) (WT hs : Nat → Nat) (w : Nat) : Nt P WL WT hs w 0 = N0 0 := rfl
set_option maxHeartbeats 2000000 in
theorem st_most {N : Nat} (hN : 200000 ≤ N) : St_most N Rel := by
  intro x_told x_marks xs_length xs_place xs_tokenPlace xs_token xs_value xs_lawTold xsd_size xsd_law xsd_weight xsd_nights xsd_wanted xsd_wantCount xsd_wantBits xs_letters xp_size xp_law xp_weight xp_nights xp_wanted xp_wantCount xp_wantBits xh_bitCount xh_given xh_made xh_gone xh_law xh_has xh_left xh_bits xy_next xy_known xyr_has xyr_left xyr_bits xyr_bitCount xyr_given xyr_made xyr_gone xyr_law x_kept xk_left xk_lumpCount xk_ringed xk_gave xk_giver xk_aims xk_got xk_lumps xg_hours xg_best xu_sums xu_hours x_toldSet x_toldWho x_toldHour xm_has xm_left xm_bits xm_bitCount xm_given xm_made xm_gone xm_law m_people m_known m_toldMany m_trace m_texted m_cursor m_start m_token m_number m_isWrong m_items m_saidPeople m_saidLaw m_ringed m_lumps m_weight m_wants m_wantsMany m_st m_was m_images m_isKept m_told m_text m_saidWeight m_saidNights m_saidWants m_saidMany m_now m_gave m_at m_way m_bestWay m_made a1 hR
  obtain ⟨P, WL, WT, ht, hp, ha, hy, hi, ho, hm, hg⟩ := hR
  have hp' := hp
  have ha' := ha
  obtain ⟨hP, rfl, rfl, hw, hl⟩ := hp
  obtain ⟨hs, lf, bt, g, c, n, w, b1, b2, b3, b4, ⟨g1, rfl, g3, g4⟩, ⟨c1, c2, c3, c4⟩, b7, ⟨n1, n2, n3⟩, ⟨w1, rfl, w3⟩⟩ := ha
  have h2P := Nat.two_pow_pos P
  have h64 := pow6 hP
  unfold f_X7_most f_X8_most
  rw [in_w]
  rcases win a1 (b := 1) (n := 1) rfl (by decide) with hw2 | ⟨s, hs1, rfl, q1, q2⟩
  · rw [within_no N hw2, within_no N hw2, if00, if00]
    exact ⟨_, _, _, _, _, _, _, _, _, _, _, _, _, _, rfl, rfl, P, WL, WT, ht, hp', ha', hy, hi, ho, hm, hg⟩
  rw [within_yes N q1 q2, within_yes N q1 q2, if10, if10, ableX hN hP (fun q hq => ⟨(b1 q hq).1, (b1 q hq).2.2.1⟩) (fun q hq => ⟨(b4 q hq).1, (b4 q hq).2.1⟩) (fun q q1 q2 => (b3 q q1 q2).1), ableM hN hP (fun q hq => ⟨(b1 q hq).1, (b1 q hq).2.2.2⟩) (fun q hq => ⟨(b4 q hq).1, (b4 q hq).2.2⟩)]
  obtain ⟨x1, x2, x3, x4, x5, x6, x7, x8, ex⟩ := mostX_l27 hN (lf := lf) (Rp_HX hp') w1 b1 b2 (2 ^ P - 1) 1 N (0, 0) xk_left xk_lumpCount xk_ringed xk_giver xk_got xk_gave xk_aims xk_lumps (by omega) (by omega) (by decide) (by decide)
  obtain ⟨z1, z2, z3, f1, f2⟩ := goesM hN (bt := bt) (g := 0) (Rp_HM hp') c1 w1 b1 b2 c3 (fun k hk => (c4 k hk).2.2.2) h2P (fun p _ hb => by rw [Nat.zero_testBit] at hb; exact absurd hb (by decide)) m_now m_gave m_at
  obtain ⟨y1, y2, y3, y4, y5, ey⟩ := mostM_l27 hN (lf := lf) (bt := bt) (Rp_HM hp') c1 w1 b1 b2 c3 (fun k hk => (c4 k hk).2.2.2) w3 (2 ^ P - 1) 1 (N - 1) (0, 0) 0 0 z1 z2 z3 (by omega) (by omega) (by decide) (by decide)
  have f1' : ∀ (ρ : Type) (k : Int32 → Int32 → (Nat → Int32) → (Nat → Int32) → (Nat → Int32) → Option ρ), f_X8_goesBy N (nI P) (blt m_now m_st 0 0 25) m_gave m_wantsMany m_wants m_weight m_at 0 (nI w) k = k 0 0 z1 z2 z3 := f1
  have em : ∀ (ρ : Type) (k : Int32 → Int32 → Int32 → Int32 → (Nat → Int32) → (Nat → Int32) → (Nat → Int32) → Option ρ), f_X8_most_l27 (nI P) m_st m_wantsMany m_wants m_weight (nI (ableS P hs lf)) k N N 0 (-1) 0 0 m_ringed m_lumps m_now m_gave m_at = k (nI (mF (ableS P hs lf) (rrF P WL WT hs w) (2 ^ P - 1) (0, 0) 1).1) (nI (mF (ableS P hs lf) (rrF P WL WT hs w) (2 ^ P - 1) (0, 0) 1).2) y1 y2 y3 y4 y5 := fun ρ k => by
    rw [← ey ρ k]
    obtain ⟨M, hM⟩ : ∃ M, N = M + 1 := ⟨N - 1, by omega⟩
    rw [show f_X8_most_l27 (nI P) m_st m_wantsMany m_wants m_weight (nI (ableS P hs lf)) k N N 0 (-1) 0 0 m_ringed m_lumps m_now m_gave m_at = f_X8_most_l27 (nI P) m_st m_wantsMany m_wants m_weight (nI (ableS P hs lf)) k N (N - 1 + 1) 0 (-1) 0 0 m_ringed m_lumps m_now m_gave m_at by rw [show N - 1 + 1 = N by omega]]
    rw [f_X8_most_l27, all_M N hP, if_neg (show ¬ nI (2 ^ P - 1) < 0 from nI_pos (by omega)), if_pos (show (0 : Int32) &&& (nI (ableS P hs lf) ^^^ (-1)) = 0 by simp), asIt_e hN, i24, ck_t, c24, w3, f1', show (0 : Int32) = nI 0 from rfl, bits_e hN (by decide), popc_0, if_pos (show (-1 : Int32) < nI 0 by decide)]
    rfl
  have ex' : ∀ (ρ : Type) (k : Int32 → Int32 → Int32 → Int32 → Int32 → (Nat → Int32) → (Nat → Int32) → (Nat → Int32) → (Nat → Int32) → (Nat → Int32) → Option ρ), f_X7_most_l27 (nI w) xh_has (nI P) xp_wantCount xp_wanted xp_weight (nI (ableS P hs lf)) k N N 0 0 1 xk_left xk_lumpCount xk_ringed xk_giver xk_got xk_gave xk_aims xk_lumps = k (nI (mF (ableS P hs lf) (rrF P WL WT hs w) (2 ^ P - 1) (0, 0) 1).1) (nI (mF (ableS P hs lf) (rrF P WL WT hs w) (2 ^ P - 1) (0, 0) 1).2) x1 x2 x3 x4 x5 x6 x7 x8 := ex
  rw [ex', em]
  unfold f_X7_most_e112 f_X8_most_e149
  rcases (show s = 0 ∨ s = 1 by omega) with rfl | rfl
  · rw [if_pos (show nI 0 = (0 : Int32) from rfl), if_pos (show nI 0 = (0 : Int32) from rfl)]
    exact ⟨_, _, _, _, _, _, _, _, _, _, _, _, _, _, rfl, rfl, P, WL, WT, ht, hp', ha', hy, hi, ho, hm, hg⟩
  · rw [if_neg (show ¬ nI 1 = (0 : Int32) by decide), if_neg (show ¬ nI 1 = (0 : Int32) by decide)]
    exact ⟨_, _, _, _, _, _, _, _, _, _, _, _, _, _, rfl, rfl, P, WL, WT, ht, hp', ha', hy, hi, ho, hm, hg⟩

