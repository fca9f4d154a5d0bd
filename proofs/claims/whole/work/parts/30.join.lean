/-! 30.join: which bits make an hour, how many hours -/
theorem sumB_0 (bt : Nat → Nat) : ∀ n, sumB bt 0 n = 0
  | 0 => rfl
  | n + 1 => by rw [sumB, sumB_0 bt n, Nat.zero_testBit]; rfl
/-- the fullest set, looked for from i on -/
def fb (bt : Nat → Nat) (c : Nat) : Nat → Nat → Nat → Nat
  | 0, b, _ => b
  | d + 1, b, i => if 60 < sumB bt i c then fb bt c d b (i + 1) else if sumB bt i c ≤ sumB bt b c then fb bt c d b (i + 1) else fb bt c d i (i + 1)
theorem fb_lt (bt : Nat → Nat) (c M : Nat) : ∀ d b i, b < M → i + d ≤ M → fb bt c d b i < M
  | 0, b, i, h, _ => h
  | d + 1, b, i, h, h2 => by
    rw [fb]
    split
    · exact fb_lt bt c M d b (i + 1) h (by omega)
    · split
      · exact fb_lt bt c M d b (i + 1) h (by omega)
      · exact fb_lt bt c M d i (i + 1) (by omega) (by omega)
theorem sh_8 {c : Nat} (hc : c ≤ 8) : ((1 : Int32) <<< (nI c &&& 31)) = nI (2 ^ c) := sh1 c (by omega)
theorem full_l7 {ρ : Type} {N : Nat} (hN : 200000 ≤ N) {c : Nat} (hc : c ≤ 8) {bt : Nat → Nat} {bits : Nat → Int32} (h60 : ∀ k, k < c → bt k ≤ 60) (hb : ∀ k, k < c → bits k = nI (bt k)) (k : Int32 → Option ρ) : ∀ (d b i n : Nat), i + d = 2 ^ c → d < n → f_X3_fullest_l7 (nI c) bits k N n (nI b) (nI (sumB bt b c)) (nI i) = k (nI (fb bt c d b i)) := by
  have h256 := pow8 hc
  intro d
  induction d with
  | zero =>
    intro b i n h1 hn
    obtain ⟨n, rfl⟩ := succ_of hn
    rw [f_X3_fullest_l7, sh_8 hc, if_pos (nI_le (by omega) (by omega))]; rfl
  | succ d ih =>
    intro b i n h1 hn
    obtain ⟨n, rfl⟩ := succ_of hn
    have s1 := sumB_le (s := i) h60
    have s2 := sumB_le (s := b) h60
    rw [f_X3_fullest_l7, sh_8 hc, if_neg (nI_ge (by omega) (by omega)), minutes_e hN hc (by omega) hb, fb, nI_1]
    by_cases q : 60 < sumB bt i c
    · rw [if_pos (show (60 : Int32) < nI (sumB bt i c) from nI_lt (a := 60) q (by omega)), if_pos q]
      exact ih b (i + 1) n (by omega) (by omega)
    · rw [if_neg (show ¬ (60 : Int32) < nI (sumB bt i c) from nI_nlt (a := 60) (by omega) (by omega)), if_neg q]
      by_cases q2 : sumB bt i c ≤ sumB bt b c
      · rw [if_pos (nI_le q2 (by omega)), if_pos q2]
        exact ih b (i + 1) n (by omega) (by omega)
      · rw [if_neg (nI_ge (by omega) (by omega)), if_neg q2]
        exact ih i (i + 1) n (by omega) (by omega)
theorem join_l25 {ρ : Type} {N : Nat} (hN : 200000 ≤ N) {c : Nat} (hc : c ≤ 8) {bt : Nat → Nat} {st : Nat → Int32} (h60 : ∀ k, k < c → bt k ≤ 60) (h13 : st 13 = nI c) (hb : ∀ k, k < c → st (14 + k) = nI (bt k)) (k : Int32 → Option ρ) : ∀ (d b i n : Nat), b < 2 ^ c → i + d = 2 ^ c → d < n → f_X8_join_l25 st k N n (nI b) (nI i) = k (nI (fb bt c d b i)) := by
  have h256 := pow8 hc
  intro d
  induction d with
  | zero =>
    intro b i n hb0 h1 hn
    obtain ⟨n, rfl⟩ := succ_of hn
    rw [f_X8_join_l25, i13, ck_t, c13, h13, sh_8 hc, if_pos (nI_le (by omega) (by omega))]; rfl
  | succ d ih =>
    intro b i n hb0 h1 hn
    obtain ⟨n, rfl⟩ := succ_of hn
    have s1 := sumB_le (s := i) h60
    have s2 := sumB_le (s := b) h60
    rw [f_X8_join_l25, i13, ck_t, c13, h13, sh_8 hc, if_neg (nI_ge (by omega) (by omega)), sumOf_e hN hc (by omega) h13 hb, sumOf_e hN hc (by omega) h13 hb, sumOf_e hN hc (by omega) h13 hb, fb]
    unfold f_X8_join_j65
    rw [nI_1]
    by_cases q : 60 < sumB bt i c
    · rw [if_pos (show (60 : Int32) < nI (sumB bt i c) from nI_lt (a := 60) q (by omega)), if_pos q]
      exact ih b (i + 1) n (by omega) (by omega) (by omega)
    · rw [if_neg (show ¬ (60 : Int32) < nI (sumB bt i c) from nI_nlt (a := 60) (by omega) (by omega)), if_neg q]
      by_cases q2 : sumB bt i c ≤ sumB bt b c
      · rw [if_pos (nI_le q2 (by omega)), if_pos q2]
        exact ih b (i + 1) n (by omega) (by omega) (by omega)
      · rw [if_neg (nI_ge (by omega) (by omega)), if_neg q2]
        exact ih i (i + 1) n (by omega) (by omega) (by omega)
/-- sets -/
def dif (s t : Nat) : Nat := s ^^^ (s &&& t)
def sub (t s : Nat) : Prop := ∀ i, t.testBit i = true → s.testBit i = true
theorem dif_bit (s t i : Nat) : (dif s t).testBit i = (s.testBit i && !t.testBit i) := by
  unfold dif
  rw [Nat.testBit_xor, Nat.testBit_and]
  cases s.testBit i <;> cases t.testBit i <;> rfl
theorem dif_le (s t : Nat) : dif s t ≤ s := Nat.le_of_testBit (fun i h => by
  rw [dif_bit] at h
  cases h2 : s.testBit i
  · rw [h2] at h; exact absurd h (by simp)
  · rfl)
theorem sub_le {t s : Nat} (h : sub t s) : t ≤ s := Nat.le_of_testBit h
theorem sub_half {t s : Nat} (h : sub t s) : sub (t / 2) (s / 2) := fun i hi => by
  rw [Nat.testBit_div_two] at *
  exact h _ hi
theorem sub_mod {t s : Nat} (h : sub t s) : t % 2 ≤ s % 2 := by
  have h0 := h 0
  rw [Nat.testBit_zero, Nat.testBit_zero, decide_eq_true_eq, decide_eq_true_eq] at h0
  omega
theorem dif_half (s t : Nat) : dif s t / 2 = dif (s / 2) (t / 2) := Nat.eq_of_testBit_eq (fun i => by
  rw [Nat.testBit_div_two, dif_bit, dif_bit, Nat.testBit_div_two, Nat.testBit_div_two])
theorem dif_mod {s t : Nat} (h : sub t s) : dif s t % 2 = s % 2 - t % 2 := by
  have h0 := sub_mod h
  have h1 := dif_bit s t 0
  rw [Nat.testBit_zero, Nat.testBit_zero, Nat.testBit_zero] at h1
  rcases Nat.mod_two_eq_zero_or_one s with a | a <;> rcases Nat.mod_two_eq_zero_or_one t with b | b <;> rcases Nat.mod_two_eq_zero_or_one (dif s t) with c | c <;> simp [a, b, c] at h1 ⊢ <;> omega
theorem dif_add : ∀ (n s t : Nat), s ≤ n → sub t s → dif s t + t = s := by
  intro n
  induction n with
  | zero =>
    intro s t h1 h2
    have := sub_le h2
    have h3 := dif_le s t
    omega
  | succ n ih =>
    intro s t h1 h2
    rcases Nat.eq_zero_or_pos s with rfl | h0
    · have := sub_le h2
      have h3 := dif_le 0 t
      omega
    · have e := ih (s / 2) (t / 2) (by omega) (sub_half h2)
      rw [← dif_half] at e
      have m := dif_mod h2
      have := sub_mod h2
      omega
theorem dif_sub {s t : Nat} (h : sub t s) : s - t = dif s t := by
  have := dif_add s s t (Nat.le_refl _) h
  omega
theorem sub_dif (s t : Nat) : sub (dif s t) s := fun i hi => by
  rw [dif_bit] at hi
  cases h2 : s.testBit i
  · rw [h2] at hi; exact absurd hi (by simp)
  · rfl
/-- the next smaller set within s -/
theorem sub_next : ∀ (n s a t : Nat), a ≤ n → sub a s → sub t s → t < a → t ≤ (a - 1) &&& s := by
  intro n
  induction n with
  | zero => intro s a t h1 h2 h3 h4; omega
  | succ n ih =>
    intro s a t h1 h2 h3 h4
    have e1 : (a - 1 &&& s) / 2 = (a - 1) / 2 &&& s / 2 := Nat.and_div_two
    have e2 : (a - 1 &&& s) % 2 = (a - 1) % 2 * (s % 2) := by
      have h := Nat.testBit_and (a - 1) s 0
      rw [Nat.testBit_zero, Nat.testBit_zero, Nat.testBit_zero] at h
      rcases Nat.mod_two_eq_zero_or_one s with u | u <;> rcases Nat.mod_two_eq_zero_or_one (a - 1) with b | b <;> rcases Nat.mod_two_eq_zero_or_one (a - 1 &&& s) with c | c <;> simp [u, b, c] at h ⊢
    have hm := sub_mod h3
    rcases Nat.mod_two_eq_zero_or_one a with q | q
    · have h5 := ih (s / 2) (a / 2) (t / 2) (by omega) (sub_half h2) (sub_half h3) (by omega)
      rw [show (a - 1) / 2 = a / 2 - 1 by omega] at e1
      rw [show (a - 1) % 2 = 1 by omega, Nat.one_mul] at e2
      omega
    · have h6 : (a - 1) / 2 &&& s / 2 = a / 2 := by
        rw [show (a - 1) / 2 = a / 2 by omega]
        apply Nat.eq_of_testBit_eq
        intro i
        rw [Nat.testBit_and]
        have := sub_half h2 i
        cases h7 : (a / 2).testBit i
        · rfl
        · rw [this h7]; rfl
      rw [show (a - 1) % 2 = 0 by omega, Nat.zero_mul] at e2
      omega
theorem next_lt {a s : Nat} (h : 0 < a) : (a - 1) &&& s < a := Nat.lt_of_le_of_lt Nat.and_le_left (by omega)
theorem next_sub (a s : Nat) : sub ((a - 1) &&& s) s := fun i hi => by
  rw [Nat.testBit_and] at hi
  exact (Bool.and_eq_true_iff.mp hi).2
/-- n hours can be made of s -/
def Can (bt : Nat → Nat) (c : Nat) : Nat → Nat → Prop
  | 0, _ => True
  | n + 1, s => ∃ t, sub t s ∧ sumB bt t c = 60 ∧ Can bt c n (dif s t)
theorem ne_of_60 {bt : Nat → Nat} {c t : Nat} (h : sumB bt t c = 60) : 0 < t := by
  rcases Nat.eq_zero_or_pos t with rfl | h0
  · rw [sumB_0] at h; omega
  · exact h0
theorem dif_lt {s t : Nat} (h : sub t s) (h0 : 0 < t) : dif s t < s := by
  have := dif_add s s t (Nat.le_refl _) h
  omega
theorem Can_le (bt : Nat → Nat) (c : Nat) : ∀ n s, Can bt c n s → n ≤ s
  | 0, _, _ => Nat.zero_le _
  | n + 1, s, ⟨t, h1, h2, h3⟩ => by
    have := Can_le bt c n _ h3
    have := dif_lt h1 (ne_of_60 h2)
    omega
theorem Can_mono (bt : Nat → Nat) (c : Nat) : ∀ n s s', sub s s' → Can bt c n s → Can bt c n s'
  | 0, _, _, _, _ => trivial
  | n + 1, s, s', h, ⟨t, h1, h2, h3⟩ => ⟨t, fun i hi => h i (h1 i hi), h2, Can_mono bt c n _ _ (fun i hi => by
      rw [dif_bit] at *
      rw [Bool.and_eq_true_iff] at *
      exact ⟨h i hi.1, hi.2⟩) h3⟩
theorem Can_less (bt : Nat → Nat) (c : Nat) : ∀ n s, Can bt c (n + 1) s → Can bt c n s
  | 0, _, _ => trivial
  | n + 1, s, ⟨t, h1, h2, h3⟩ => ⟨t, h1, h2, Can_less bt c n _ h3⟩
theorem Can_down (bt : Nat → Nat) (c : Nat) {n s : Nat} : ∀ {m}, n ≤ m → Can bt c m s → Can bt c n s
  | 0, h, hc => by rw [show n = 0 by omega]; trivial
  | m + 1, h, hc => by
    rcases Nat.lt_or_ge m n with q | q
    · rw [show n = m + 1 by omega]; exact hc
    · exact Can_down bt c q (Can_less bt c m s hc)
def isMax (bt : Nat → Nat) (c s v : Nat) : Prop := Can bt c v s ∧ ¬ Can bt c (v + 1) s
theorem isMax_uniq {bt : Nat → Nat} {c s v w : Nat} (h1 : isMax bt c s v) (h2 : isMax bt c s w) : v = w := by
  rcases Nat.lt_trichotomy v w with q | q | q
  · exact absurd (Can_down bt c q h2.1) h1.2
  · exact q
  · exact absurd (Can_down bt c q h1.1) h2.2
theorem isMax_le {bt : Nat → Nat} {c s v n : Nat} (h1 : isMax bt c s v) (h2 : Can bt c n s) : n ≤ v := by
  rcases Nat.lt_or_ge v n with q | q
  · exact absurd (Can_down bt c q h2) h1.2
  · exact q
/-- a bit i is left lying, or is in one of the hours -/
theorem Can_split (bt : Nat → Nat) (c i : Nat) : ∀ n s, s.testBit i = true → Can bt c n s → Can bt c n (dif s (2 ^ i)) ∨ ∃ m t, n = m + 1 ∧ sub t s ∧ t.testBit i = true ∧ sumB bt t c = 60 ∧ Can bt c m (dif s t)
  | 0, s, _, _ => Or.inl trivial
  | n + 1, s, hs, ⟨t, h1, h2, h3⟩ => by
    cases hi : t.testBit i with
    | true => exact Or.inr ⟨n, t, rfl, h1, hi, h2, h3⟩
    | false =>
      rcases Can_split bt c i n (dif s t) (by rw [dif_bit, hs, hi]; rfl) h3 with h4 | ⟨m, u, rfl, h5, h6, h7, h8⟩
      · refine Or.inl ⟨t, fun j hj => ?_, h2, ?_⟩
        · rw [dif_bit, h1 j hj, Nat.testBit_two_pow]
          by_cases e : i = j
          · subst e; rw [hi] at hj; exact absurd hj (by decide)
          · rw [decide_eq_false e]; rfl
        · rw [show dif (dif s (2 ^ i)) t = dif (dif s t) (2 ^ i) from Nat.eq_of_testBit_eq (fun j => by simp only [dif_bit]; ac_rfl)]
          exact h4
      · refine Or.inr ⟨m + 1, u, rfl, fun j hj => sub_dif s t j (h5 j hj), h6, h7, t, fun j hj => ?_, h2, ?_⟩
        · rw [dif_bit, h1 j hj]
          cases hu : u.testBit j with
          | false => rfl
          | true => have := h5 j hu; rw [dif_bit, hj] at this; simp at this
        · rw [show dif (dif s u) t = dif (dif s t) u from Nat.eq_of_testBit_eq (fun j => by simp only [dif_bit]; ac_rfl)]
          exact h8
theorem xor_nI (a b : Nat) : nI a ^^^ nI b = nI (a ^^^ b) := by
  apply Int32.toBitVec_inj.mp
  apply BitVec.eq_of_toNat_eq
  simp [nI]
theorem andn {s : Nat} (t : Nat) (hs : s < 2 ^ 31) : nI s &&& (nI t ^^^ (-1)) = nI (dif s t) := by
  rw [show (-1 : Int32) = nI (2 ^ 32 - 1) by decide, xor_nI, and_nI]
  congr 1
  apply Nat.eq_of_testBit_eq
  intro i
  rw [Nat.testBit_and, Nat.testBit_xor, dif_bit, Nat.testBit_two_pow_sub_one]
  by_cases h : i < 32
  · rw [decide_eq_true h]; simp
  · rw [bit_out (P := 31) hs (by omega)]; rfl
theorem low_bit : ∀ s, s < 256 → 0 < s → ∃ i, i < 8 ∧ s.testBit i = true ∧ nI s &&& (-(nI s)) = nI (2 ^ i) := by decide +kernel
theorem and_pow (t i : Nat) : t &&& 2 ^ i = if t.testBit i then 2 ^ i else 0 := Nat.eq_of_testBit_eq (fun j => by
  rw [Nat.testBit_and, Nat.testBit_two_pow]
  by_cases e : i = j
  · subst e
    cases h : t.testBit i <;> simp
  · cases h : t.testBit i <;> simp [e])
theorem and_bit0 {t i : Nat} (hi : i < 8) : (nI t &&& nI (2 ^ i) = 0) ↔ t.testBit i = false := by
  rw [and_nI, and_pow]
  have : 2 ^ i ≤ 2 ^ 7 := Nat.pow_le_pow_right (by decide) (by omega)
  have h0 := Nat.two_pow_pos i
  cases t.testBit i with
  | true => simp; exact nI_ne0 h0 (by omega)
  | false => simp; rfl
theorem sub_self (s : Nat) : sub s s := fun _ h => h
theorem sub1_and {a s : Nat} (h : 0 < a) : (nI a - 1) &&& nI s = nI ((a - 1) &&& s) := by rw [nI_sub1 h, and_nI]
/-- the class's count of hours for one set -/
theorem hoursOf_l25 {bt : Nat → Nat} {c s i : Nat} (hs : s < 256) (hi : i < 8) (hsi : s.testBit i = true) (hlow : nI s &&& (-(nI s)) = nI (2 ^ i)) {hours sums : Nat → Int32} (hh : ∀ t, t < s → ∃ w, hours t = nI w ∧ isMax bt c t w) (hS : ∀ t, t ≤ s → sumB bt t c < 2 ^ 31 ∧ sums t = nI (sumB bt t c)) : ∀ (n a v : Nat), sub a s → a < n → Can bt c v s → (∀ w, isMax bt c (dif s (2 ^ i)) w → w ≤ v) → (∀ t, sub t s → a < t → t.testBit i = true → sumB bt t c = 60 → ∀ w, isMax bt c (dif s t) w → w + 1 ≤ v) → ∃ v', (∀ (ρ : Type) (k : Int32 → Option ρ), f_X3_hoursOf_l25 (nI s) hours sums k n (nI v) (nI a) = k (nI v')) ∧ isMax bt c s v' := by
  intro n
  induction n with
  | zero => intro a v _ h; omega
  | succ n ih =>
    intro a v ha hn hv hw ht
    rcases Nat.eq_zero_or_pos a with rfl | h0
    · refine ⟨v, fun ρ k => ?_, hv, fun h => ?_⟩
      · rw [f_X3_hoursOf_l25, if_pos (show nI 0 ≤ (0 : Int32) by decide)]
      · rcases Can_split bt c i (v + 1) s hsi h with h1 | ⟨m, t, e, h1, h2, h3, h4⟩
        · obtain ⟨w, _, hw2⟩ := hh (dif s (2 ^ i)) (dif_lt (fun j hj => by rw [Nat.testBit_two_pow, decide_eq_true_eq] at hj; subst hj; exact hsi) (Nat.two_pow_pos i))
          have := isMax_le hw2 h1
          have := hw w hw2
          omega
        · obtain rfl : m = v := by omega
          obtain ⟨w, _, hw2⟩ := hh (dif s t) (dif_lt h1 (ne_of_60 h3))
          have := isMax_le hw2 h4
          have := ht t h1 (ne_of_60 h3) h2 h3 w hw2
          omega
    have hle := sub_le ha
    have hvs := Can_le bt c v s hv
    have step : ∀ v2, Can bt c v2 s → v ≤ v2 → (a.testBit i = true → sumB bt a c = 60 → ∀ w, isMax bt c (dif s a) w → w + 1 ≤ v2) → ∃ v', (∀ (ρ : Type) (k : Int32 → Option ρ), f_X3_hoursOf_l25 (nI s) hours sums k n (nI v2) (nI ((a - 1) &&& s)) = k (nI v')) ∧ isMax bt c s v' := by
      intro v2 h1 h2 h3
      refine ih ((a - 1) &&& s) v2 (next_sub a s) (by have := next_lt (s := s) h0; omega) h1 (fun w hw' => Nat.le_trans (hw w hw') h2) (fun t q1 q2 q3 q4 w q5 => ?_)
      rcases Nat.lt_trichotomy t a with q | q | q
      · have := sub_next a s a t (Nat.le_refl _) ha q1 q; omega
      · subst q; exact h3 q3 q4 w q5
      · exact Nat.le_trans (ht t q1 q q3 q4 w q5) h2
    cases hb : a.testBit i with
    | false =>
      obtain ⟨v', e1, e2⟩ := step v hv (Nat.le_refl _) (fun h => by rw [hb] at h; exact absurd h (by decide))
      refine ⟨v', fun ρ k => ?_, e2⟩
      rw [f_X3_hoursOf_l25, if_neg (nI_nle h0 (by omega)), hlow, if_pos ((and_bit0 hi).mpr hb), f_X3_hoursOf_j67, sub1_and h0]
      exact e1 ρ k
    | true =>
      have hS2 := hS a hle
      by_cases h60 : sumB bt a c = 60
      · obtain ⟨w, hw1, hw2⟩ := hh (dif s a) (dif_lt ha h0)
        have hwle := Can_le bt c w _ hw2.1
        have hdl := dif_lt ha h0
        obtain ⟨v', e1, e2⟩ := step (if v < 1 + w then 1 + w else v) (by
          split
          · rw [Nat.add_comm]; exact ⟨a, ha, h60, hw2.1⟩
          · exact hv) (by split <;> omega) (fun _ _ w' h' => by
            have := isMax_uniq h' hw2
            split <;> omega)
        refine ⟨v', fun ρ k => ?_, e2⟩
        rw [f_X3_hoursOf_l25, if_neg (nI_nle h0 (by omega)), hlow, if_neg (fun h => by rw [(and_bit0 hi).mp h] at hb; exact absurd hb (by decide)), ivi_n (show a < 256 by omega) (by decide), ck_t, cl (by omega), hS2.2, h60, if_pos (show nI 60 = (60 : Int32) from rfl), andn a (by omega), ivi_n (show dif s a < 256 by omega) (by decide), ck_t, cl (by omega), hw1, f_X3_hoursOf_j67, sub1_and h0, show (1 : Int32) + nI w = nI (1 + w) from nI_add 1 w]
        have e3 : (if nI v < nI (1 + w) then nI (1 + w) else nI v) = nI (if v < 1 + w then 1 + w else v) := by
          by_cases q : v < 1 + w
          · rw [if_pos q, if_pos (nI_lt q (by omega))]
          · rw [if_neg q, if_neg (nI_nlt (by omega) (by omega))]
        rw [e3]
        exact e1 ρ k
      · obtain ⟨v', e1, e2⟩ := step v hv (Nat.le_refl _) (fun _ h => absurd h h60)
        refine ⟨v', fun ρ k => ?_, e2⟩
        rw [f_X3_hoursOf_l25, if_neg (nI_nle h0 (by omega)), hlow, if_neg (fun h => by rw [(and_bit0 hi).mp h] at hb; exact absurd hb (by decide)), ivi_n (show a < 256 by omega) (by decide), ck_t, cl (by omega), hS2.2, if_neg (show ¬ nI (sumB bt a c) = (60 : Int32) from fun h => h60 (inj_n (b := 60) hS2.1 (by decide) h)), f_X3_hoursOf_j67, sub1_and h0]
        exact e1 ρ k
theorem isMax_0 (bt : Nat → Nat) (c : Nat) : isMax bt c 0 0 := ⟨trivial, fun h => by have := Can_le bt c 1 0 h; omega⟩
theorem hoursOf_e {N : Nat} (hN : 200000 ≤ N) {bt : Nat → Nat} {c s : Nat} (hs : s < 256) {hours sums : Nat → Int32} (hh : ∀ t, t < s → ∃ w, hours t = nI w ∧ isMax bt c t w) (hS : ∀ t, t ≤ s → sumB bt t c < 2 ^ 31 ∧ sums t = nI (sumB bt t c)) : ∃ v', (∀ (ρ : Type) (k : Int32 → Option ρ), f_X3_hoursOf N hours sums (nI s) k = k (nI v')) ∧ isMax bt c s v' := by
  rcases Nat.eq_zero_or_pos s with rfl | h0
  · exact ⟨0, fun ρ k => by unfold f_X3_hoursOf; rw [if_pos (show nI 0 = (0 : Int32) from rfl)]; rfl, isMax_0 bt c⟩
  obtain ⟨i, hi, hsi, hlow⟩ := low_bit s hs h0
  have hdl : dif s (2 ^ i) < s := dif_lt (fun j hj => by rw [Nat.testBit_two_pow, decide_eq_true_eq] at hj; subst hj; exact hsi) (Nat.two_pow_pos i)
  obtain ⟨w, hw1, hw2⟩ := hh _ hdl
  obtain ⟨v', e1, e2⟩ := hoursOf_l25 hs hi hsi hlow hh hS N s w (sub_self s) (by omega) (Can_mono bt c w _ _ (sub_dif s _) hw2.1) (fun w' h => Nat.le_of_eq (isMax_uniq h hw2)) (fun t h1 h2 => absurd (sub_le h1) (by omega))
  refine ⟨v', fun ρ k => ?_, e2⟩
  unfold f_X3_hoursOf
  rw [if_neg (nI_ne0 h0 (by omega)), hlow, andn _ (by omega), ivi_n (show dif s (2 ^ i) < 256 by omega) (by decide), ck_t, cl (by omega), hw1]
  exact e1 ρ k
theorem mostX_l9 {N : Nat} (hN : 200000 ≤ N) {c : Nat} (hc : c ≤ 8) {bt : Nat → Nat} {bits : Nat → Int32} (h60 : ∀ k, k < c → bt k ≤ 60) (hb : ∀ k, k < c → bits k = nI (bt k)) : ∀ (d s n : Nat) (sums hours : Nat → Int32), s + d = 2 ^ c → d < n → (∀ t, t < s → ∃ w, hours t = nI w ∧ isMax bt c t w) → (∀ t, t < s → sums t = nI (sumB bt t c)) → ∃ sums' hours', (∀ (ρ : Type) (k : (Nat → Int32) → (Nat → Int32) → Option ρ), f_X3_mostHours_l9 (nI c) bits k N n (nI s) sums hours = k sums' hours') ∧ ∀ t, t < 2 ^ c → ∃ w, hours' t = nI w ∧ isMax bt c t w := by
  have h256 := pow8 hc
  intro d
  induction d with
  | zero =>
    intro s n sums hours h1 hn hh hS
    obtain ⟨n, rfl⟩ := succ_of hn
    obtain rfl : s = 2 ^ c := by omega
    exact ⟨sums, hours, fun ρ k => by rw [f_X3_mostHours_l9, sh_8 hc, if_pos (nI_le (Nat.le_refl _) (by omega))], hh⟩
  | succ d ih =>
    intro s n sums hours h1 hn hh hS
    obtain ⟨n, rfl⟩ := succ_of hn
    have hS' : ∀ t, t ≤ s → sumB bt t c < 2 ^ 31 ∧ upd sums s (nI (sumB bt s c)) t = nI (sumB bt t c) := fun t q => by
      refine ⟨by have := sumB_le (s := t) h60; omega, ?_⟩
      by_cases e : t = s
      · subst e; rw [upd_s]
      · rw [upd_n e]; exact hS t (by omega)
    obtain ⟨v, e1, e2⟩ := hoursOf_e hN (show s < 256 by omega) hh hS'
    obtain ⟨sums', hours', e3, e4⟩ := ih (s + 1) n (upd sums s (nI (sumB bt s c))) (upd hours s (nI v)) (by omega) (by omega) (fun t q => by
      by_cases e : t = s
      · subst e; exact ⟨v, upd_s _ _ _, e2⟩
      · rw [upd_n e]; exact hh t (by omega)) (fun t q => (hS' t (by omega)).2)
    refine ⟨sums', hours', fun ρ k => ?_, e4⟩
    rw [f_X3_mostHours_l9, sh_8 hc, if_neg (nI_ge (by omega) (by omega)), minutes_e hN hc (by omega) hb]
    simp only [ivi_n (show s < 256 by omega) (by decide), ck_t, cl (show s < 2 ^ 31 by omega), e1, nI_1]
    exact e3 ρ k
/-- the reference's count of hours for one set -/
theorem hoursM_l26 {N : Nat} (hN : 200000 ≤ N) {c : Nat} (hc : c ≤ 8) {bt : Nat → Nat} {st : Nat → Int32} (h60 : ∀ k, k < c → bt k ≤ 60) (h13 : st 13 = nI c) (hb : ∀ k, k < c → st (14 + k) = nI (bt k)) {s : Nat} (hs : s < 256) : ∀ (n a v : Nat) (z : Nat → Int32), sub a s → a < n → z s = nI v → Can bt c v s → (∀ t, t < s → ∃ w, z t = nI w ∧ isMax bt c t w) → (∀ t, sub t s → a < t → sumB bt t c = 60 → ∀ w, isMax bt c (dif s t) w → w + 1 ≤ v) → ∃ z', (∀ (ρ : Type) (k : (Nat → Int32) → Option ρ), f_X8_hours_l26 st (nI s) k N n (nI a) z = k z') ∧ ∀ t, t < s + 1 → ∃ w, z' t = nI w ∧ isMax bt c t w := by
  intro n
  induction n with
  | zero => intro a v z _ h; omega
  | succ n ih =>
    intro a v z ha hn hz hv hh ht
    rcases Nat.eq_zero_or_pos a with rfl | h0
    · refine ⟨z, fun ρ k => ?_, fun t q => ?_⟩
      · rw [f_X8_hours_l26, if_pos (show nI 0 ≤ (0 : Int32) by decide)]
      · by_cases e : t = s
        · subst e
          refine ⟨v, hz, hv, fun ⟨u, h1, h2, h3⟩ => ?_⟩
          obtain ⟨w, _, hw2⟩ := hh (dif t u) (dif_lt h1 (ne_of_60 h2))
          have := isMax_le hw2 h3
          have := ht u h1 (ne_of_60 h2) h2 w hw2
          omega
        · exact hh t (by omega)
    have hle := sub_le ha
    have hvs := Can_le bt c v s hv
    have step : ∀ v2, Can bt c v2 s → v ≤ v2 → (sumB bt a c = 60 → ∀ w, isMax bt c (dif s a) w → w + 1 ≤ v2) → ∃ z', (∀ (ρ : Type) (k : (Nat → Int32) → Option ρ), f_X8_hours_l26 st (nI s) k N n (nI ((a - 1) &&& s)) (upd z s (nI v2)) = k z') ∧ ∀ t, t < s + 1 → ∃ w, z' t = nI w ∧ isMax bt c t w := by
      intro v2 h1 h2 h3
      refine ih ((a - 1) &&& s) v2 (upd z s (nI v2)) (next_sub a s) (by have := next_lt (s := s) h0; omega) (upd_s _ _ _) h1 (fun t q => by rw [upd_n (by omega)]; exact hh t q) (fun t q1 q2 q4 w q5 => ?_)
      rcases Nat.lt_trichotomy t a with q | q | q
      · have := sub_next a s a t (Nat.le_refl _) ha q1 q; omega
      · subst q; exact h3 q4 w q5
      · exact Nat.le_trans (ht t q1 q q4 w q5) h2
    have hsum := sumB_le (s := a) h60
    have hi : ivi (nI s) 256 = true := ivi_n hs (by decide)
    have hcl : (nI s).toNatClampNeg = s := cl (by omega)
    by_cases e60 : sumB bt a c = 60
    · obtain ⟨w, hw1, hw2⟩ := hh (dif s a) (dif_lt ha h0)
      have hwle := Can_le bt c w _ hw2.1
      have hdl := dif_lt ha h0
      by_cases q : w + 1 ≤ v
      · obtain ⟨z', e1, e2⟩ := step v hv (Nat.le_refl _) (fun _ w' h' => by have := isMax_uniq h' hw2; omega)
        refine ⟨z', fun ρ k => ?_, e2⟩
        rw [f_X8_hours_l26, if_neg (nI_nle h0 (by omega)), sumOf_e hN hc (by omega) h13 hb, e60, if_pos (show nI 60 = (60 : Int32) from rfl), pk_sub hle, dif_sub ha, ivi_n (show dif s a < 256 by omega) (by decide), ck_t, hi, ck_t, hcl, cl (show dif s a < 2 ^ 31 by omega), hw1, hz, nI_1, if_pos (nI_le q (by omega)), f_X8_hours_j63, f_X8_hours_j64, if00, f_X8_hours_j95, hi, ck_t, ck_t, sub1_and h0, hcl, hz]
        exact e1 ρ k
      · obtain ⟨z', e1, e2⟩ := step (w + 1) ⟨a, ha, e60, hw2.1⟩ (by omega) (fun _ w' h' => by have := isMax_uniq h' hw2; omega)
        refine ⟨z', fun ρ k => ?_, e2⟩
        rw [f_X8_hours_l26, if_neg (nI_nle h0 (by omega)), sumOf_e hN hc (by omega) h13 hb, e60, if_pos (show nI 60 = (60 : Int32) from rfl), pk_sub hle, dif_sub ha, ivi_n (show dif s a < 256 by omega) (by decide), ck_t, hi, ck_t, hcl, cl (show dif s a < 2 ^ 31 by omega), hw1, hz, nI_1, if_neg (nI_ge (by omega) (by omega)), f_X8_hours_j64, if10, pk_sub hle, dif_sub ha, ivi_n (show dif s a < 256 by omega) (by decide), ck_t, f_X8_hours_j95, hi, ck_t, sub1_and h0, hcl, cl (show dif s a < 2 ^ 31 by omega), hw1, nI_1]
        exact e1 ρ k
    · obtain ⟨z', e1, e2⟩ := step v hv (Nat.le_refl _) (fun h => absurd h e60)
      refine ⟨z', fun ρ k => ?_, e2⟩
      rw [f_X8_hours_l26, if_neg (nI_nle h0 (by omega)), sumOf_e hN hc (by omega) h13 hb, if_neg (show ¬ nI (sumB bt a c) = (60 : Int32) from fun h => e60 (inj_n (b := 60) (by omega) (by decide) h)), f_X8_hours_j63, f_X8_hours_j64, if00, f_X8_hours_j95, hi, ck_t, ck_t, sub1_and h0, hcl, hz]
      exact e1 ρ k
theorem hoursM_l12 {N : Nat} (hN : 200000 ≤ N) {c : Nat} (hc : c ≤ 8) {bt : Nat → Nat} {st : Nat → Int32} (h60 : ∀ k, k < c → bt k ≤ 60) (h13 : st 13 = nI c) (hb : ∀ k, k < c → st (14 + k) = nI (bt k)) : ∀ (d s n : Nat) (z : Nat → Int32), s + d = 2 ^ c → d < n → (∀ t, t < s → ∃ w, z t = nI w ∧ isMax bt c t w) → ∃ z', (∀ (ρ : Type) (k : (Nat → Int32) → Option ρ), f_X8_hours_l12 st k N n (nI s) z = k z') ∧ ∀ t, t < 2 ^ c → ∃ w, z' t = nI w ∧ isMax bt c t w := by
  have h256 := pow8 hc
  intro d
  induction d with
  | zero =>
    intro s n z h1 hn hh
    obtain ⟨n, rfl⟩ := succ_of hn
    obtain rfl : s = 2 ^ c := by omega
    exact ⟨z, fun ρ k => by rw [f_X8_hours_l12, c13, h13, sh_8 hc, if_pos (nI_le (Nat.le_refl _) (by omega))], hh⟩
  | succ d ih =>
    intro s n z h1 hn hh
    obtain ⟨n, rfl⟩ := succ_of hn
    obtain ⟨z1, e1, e2⟩ := hoursM_l26 hN hc h60 h13 hb (show s < 256 by omega) N s 0 (upd z s 0) (sub_self s) (by omega) (upd_s _ _ _) trivial (fun t q => by rw [upd_n (by omega)]; exact hh t q) (fun t h1 h2 => absurd (sub_le h1) (by omega))
    obtain ⟨z2, e3, e4⟩ := ih (s + 1) n z1 (by omega) (by omega) e2
    refine ⟨z2, fun ρ k => ?_, e4⟩
    rw [f_X8_hours_l12, c13, h13, sh_8 hc, if_neg (nI_ge (by omega) (by omega)), ivi_n (show s < 256 by omega) (by decide), ck_t, cl (by omega), e1, f_X8_hours_e105, nI_1]
    exact e3 ρ k
set_option maxHeartbeats 2000000 in
theorem st_join {N : Nat} (hN : 200000 ≤ N) : St_join N Rel := by
  intro x_told x_marks xs_length xs_place xs_tokenPlace xs_token xs_value xs_lawTold xsd_size xsd_law xsd_weight xsd_nights xsd_wanted xsd_wantCount xsd_wantBits xs_letters xp_size xp_law xp_weight xp_nights xp_wanted xp_wantCount xp_wantBits xh_bitCount xh_given xh_made xh_gone xh_law xh_has xh_left xh_bits xy_next xy_known xyr_has xyr_left xyr_bits xyr_bitCount xyr_given xyr_made xyr_gone xyr_law x_kept xk_left xk_lumpCount xk_ringed xk_gave xk_giver xk_aims xk_got xk_lumps xg_hours xg_best xu_sums xu_hours x_toldSet x_toldWho x_toldHour xm_has xm_left xm_bits xm_bitCount xm_given xm_made xm_gone xm_law m_people m_known m_toldMany m_trace m_texted m_cursor m_start m_token m_number m_isWrong m_items m_saidPeople m_saidLaw m_ringed m_lumps m_weight m_wants m_wantsMany m_st m_was m_images m_isKept m_told m_text m_saidWeight m_saidNights m_saidWants m_saidMany m_now m_gave m_at m_way m_bestWay m_made a1 hR
  obtain ⟨P, WL, WT, ht, hp, ha, hy, hi, ho, hm, hg⟩ := hR
  have hp' := hp
  have ha' := ha
  obtain ⟨hP, rfl, rfl, hw, hl⟩ := hp
  obtain ⟨hs, lf, bt, g, c, n, w, b1, b2, b3, b4, ⟨g1, g2, g3, g4⟩, ⟨c1, rfl, c3, c4⟩, b7, ⟨n1, n2, n3⟩, ⟨w1, w2, w3⟩⟩ := ha
  have h256 := pow8 c1
  have h60 : ∀ k, k < c → bt k ≤ 60 := fun k hk => (c4 k hk).2.1
  have hX := fun k hk => (c4 k hk).2.2.1
  have hM := fun k hk => (c4 k hk).2.2.2
  have h2c := Nat.two_pow_pos c
  unfold f_X7_join f_X8_join
  rw [in_w]
  rcases win a1 (b := 2) (n := 2) rfl (by decide) with hw2 | ⟨s, hs1, rfl, q1, q2⟩
  · rw [within_no N hw2, if00, if_neg (fun h => by subst h; exact absurd hw2 (by decide)), if_neg (fun h => by subst h; exact absurd hw2 (by decide)), if_neg (fun h => by subst h; exact absurd hw2 (by decide))]
    exact ⟨_, _, _, _, rfl, rfl, P, WL, WT, ht, hp', ha', hy, hi, ho, hm, hg⟩
  rw [within_yes N q1 q2, if10]
  have eX : ∀ (ρ : Type) (k : Int32 → Option ρ), f_X3_fullest N (nI c) xh_bits k = k (nI (fb bt c (2 ^ c - 1) 0 1)) := fun ρ k => by
    have := full_l7 hN c1 h60 hX k (2 ^ c - 1) 0 1 N (by omega) (by omega)
    rw [sumB_0] at this
    exact this
  have eM : ∀ (ρ : Type) (k : Int32 → Option ρ), f_X8_join_l25 m_st k N N 0 0 = k (nI (fb bt c (2 ^ c - 1) 0 1)) := fun ρ k => by
    have := join_l25 hN c1 h60 c3 hM k (2 ^ c - 1 + 1) 0 0 N (by omega) (by omega) (by omega)
    rw [fb, sumB_0] at this
    exact this
  have hlt := fb_lt bt c (2 ^ c) (2 ^ c - 1) 0 1 (by omega) (by omega)
  rcases (show s = 0 ∨ s = 1 ∨ s = 2 by omega) with rfl | rfl | rfl
  · rw [if_pos (show nI 0 = (0 : Int32) from rfl), if_neg (show ¬ nI 0 = (2 : Int32) by decide), eX, eM]
    unfold f_X8_join_e73
    rw [if_pos (show nI 0 = (0 : Int32) from rfl)]
    exact ⟨_, _, _, _, rfl, rfl, P, WL, WT, ht, hp', ha', hy, hi, ho, hm, hg⟩
  · rw [if_neg (show ¬ nI 1 = (0 : Int32) by decide), if_pos (show nI 1 = (1 : Int32) from rfl), if_neg (show ¬ nI 1 = (2 : Int32) by decide), eX, eM]
    unfold f_X8_join_e73
    rw [if_neg (show ¬ nI 1 = (0 : Int32) by decide), minutes_e hN c1 (by omega) hX, sumOf_e hN c1 (by omega) c3 hM]
    exact ⟨_, _, _, _, rfl, rfl, P, WL, WT, ht, hp', ha', hy, hi, ho, hm, hg⟩
  · rw [if_neg (show ¬ nI 2 = (0 : Int32) by decide), if_neg (show ¬ nI 2 = (1 : Int32) by decide), if_pos (show nI 2 = (2 : Int32) from rfl), if_pos (show nI 2 = (2 : Int32) from rfl)]
    obtain ⟨s', h', e1, e2⟩ := mostX_l9 hN c1 h60 hX (2 ^ c) 0 N xu_sums xu_hours (by omega) (by omega) (fun t q => absurd q (by omega)) (fun t q => absurd q (by omega))
    obtain ⟨z', e3, e4⟩ := hoursM_l12 hN c1 h60 c3 hM (2 ^ c) 0 N m_made (by omega) (by omega) (fun t q => absurd q (by omega))
    unfold f_X3_mostHours f_X8_hours f_X3_mostHours_e42 f_X8_hours_e111
    rw [i13, ck_t]
    simp only [c13, c3, all_8 c1, ivi_n (show 2 ^ c - 1 < 256 by omega) (by decide), ck_t, cl (show 2 ^ c - 1 < 2 ^ 31 by omega)]
    obtain ⟨wx, hx1, hx2⟩ := e2 (2 ^ c - 1) (by omega)
    obtain ⟨wm, hm1, hm2⟩ := e4 (2 ^ c - 1) (by omega)
    have e1' : ∀ (ρ : Type) (k : (Nat → Int32) → (Nat → Int32) → Option ρ), f_X3_mostHours_l9 (nI c) xh_bits k N N 0 xu_sums xu_hours = k s' h' := e1
    have e3' : ∀ (ρ : Type) (k : (Nat → Int32) → Option ρ), f_X8_hours_l12 m_st k N N 0 m_made = k z' := e3
    rw [e1', e3', hx1, hm1, isMax_uniq hx2 hm2]
    exact ⟨_, _, _, _, rfl, rfl, P, WL, WT, ht, hp', ha', hy, hi, ho, hm, hg⟩

