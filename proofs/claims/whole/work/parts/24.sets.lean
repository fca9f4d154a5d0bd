/-! 24.sets: how many are in a set; who is able; who has his own -/
def popc (g : Nat) : Nat → Nat
  | 0 => 0
  | n + 1 => popc g n + (if g.testBit n then 1 else 0)
theorem popc_le (g : Nat) : ∀ n, popc g n ≤ n
  | 0 => Nat.le_refl 0
  | n + 1 => by
    have := popc_le g n
    rw [popc]
    split <;> omega
theorem bits_l4 {ρ : Type} {g : Nat} (hg : g < 2 ^ 31) (k : Int32 → Option ρ) : ∀ (d i n : Nat), i + d = 8 → d < n → f_X8_bits_l4 (nI g) k n (nI (popc g i)) (nI i) = k (nI (popc g 8)) := by
  intro d
  induction d with
  | zero =>
    intro i n h hn
    obtain ⟨n, rfl⟩ := succ_of hn
    obtain rfl : i = 8 := by omega
    rw [f_X8_bits_l4, if_pos (show (8 : Int32) ≤ nI 8 by decide)]
  | succ d ih =>
    intro i n h hn
    obtain ⟨n, rfl⟩ := succ_of hn
    rw [f_X8_bits_l4, if_neg (show ¬ (8 : Int32) ≤ nI i from nI_ge (b := 8) (by omega) (by decide)), bit1 hg (by omega), nI_add, nI_1]
    exact ih (i + 1) n (by omega) (by omega)
theorem bits_e {ρ : Type} {N : Nat} (hN : 200000 ≤ N) {g : Nat} (hg : g < 2 ^ 31) (k : Int32 → Option ρ) : f_X8_bits N (nI g) k = k (nI (popc g 8)) := bits_l4 hg k 8 0 N (by omega) (by omega)
theorem bc_bind {ρ : Type} (N : Nat) (x : Int32) (k : Int32 → Option ρ) : f_J6_bitCount_0f7a4 N x k = (f_J6_bitCount_0f7a4 0 x (fun r => some r)).bind k := rfl
theorem bc_dec : ∀ g, g < 256 → f_J6_bitCount_0f7a4 0 (nI g) (fun r => some r) = some (nI (popc g 8)) := by decide +kernel
theorem bc_e {ρ : Type} (N : Nat) {g : Nat} (hg : g < 256) (k : Int32 → Option ρ) : f_J6_bitCount_0f7a4 N (nI g) k = k (nI (popc g 8)) := by
  rw [bc_bind, bc_dec g hg]; rfl
theorem and_not : ∀ g, g < 64 → ∀ i, i < 6 → nI g &&& (((1 : Int32) <<< (nI i &&& 31)) ^^^ (-1)) = nI (g &&& (63 ^^^ 2 ^ i)) := by decide +kernel
theorem clr_bit (g i j : Nat) (hj : j < 6) : (g &&& (63 ^^^ 2 ^ i)).testBit j = (g.testBit j && !decide (i = j)) := by
  rw [Nat.testBit_and, Nat.testBit_xor, Nat.testBit_two_pow]
  have : (63 : Nat).testBit j = true := by
    rcases (show j = 0 ∨ j = 1 ∨ j = 2 ∨ j = 3 ∨ j = 4 ∨ j = 5 by omega) with rfl | rfl | rfl | rfl | rfl | rfl <;> decide
  rw [this, Bool.true_xor]
theorem pow6 {P : Nat} (hP : P ≤ 6) : 2 ^ P ≤ 64 := Nat.pow_le_pow_right (by decide) hP
theorem able_l4 {ρ : Type} (has left : Nat → Int32) (k : Int32 → Option ρ) : ∀ (d i n : Nat), i + d = 6 → d < n → f_X0_able_l4 has left k n (nI (bset (fun p => !decide (has p = -9) && !decide (left p ≤ 0)) i)) (nI i) = k (nI (bset (fun p => !decide (has p = -9) && !decide (left p ≤ 0)) 6)) := by
  intro d
  induction d with
  | zero =>
    intro i n h hn
    obtain ⟨n, rfl⟩ := succ_of hn
    obtain rfl : i = 6 := by omega
    rw [f_X0_able_l4, if_pos (show (6 : Int32) ≤ nI 6 by decide)]
  | succ d ih =>
    intro i n h hn
    obtain ⟨n, rfl⟩ := succ_of hn
    have key := ih (i + 1) n (by omega) (by omega)
    rw [f_X0_able_l4, if_neg (show ¬ (6 : Int32) ≤ nI i from nI_ge (b := 6) (by omega) (by decide))]
    simp only [ivi_n (show i < 6 by omega) (by decide), ck_t, cl (show i < 2 ^ 31 by omega), nI_1, sh1 i (by omega), or_nI]
    rw [bset] at key
    by_cases h1 : has i = -9
    · rw [if_pos h1]
      simpa [h1] using key
    · rw [if_neg h1]
      by_cases h2 : left i ≤ 0
      · rw [if_pos h2]
        simpa [h2] using key
      · rw [if_neg h2]
        simpa [h1, h2] using key
theorem ableM_l4 {ρ : Type} {P : Nat} (hP : P ≤ 6) {hs lf : Nat → Nat} {st : Nat → Int32} (h1 : ∀ p, p < P → hs p ≤ 6 ∧ st p = nI (hs p)) (h2 : ∀ p, p < P → lf p ≤ 9 ∧ st (6 + p) = nI (lf p)) (k : Int32 → Option ρ) : ∀ (d i n : Nat), i + d = P → d < n → f_X8_able_l4 (nI P) st k n (nI (bset (fun p => decide (hs p ≠ 6) && decide (0 < lf p)) i)) (nI i) = k (nI (bset (fun p => decide (hs p ≠ 6) && decide (0 < lf p)) P)) := by
  intro d
  induction d with
  | zero =>
    intro i n h hn
    obtain ⟨n, rfl⟩ := succ_of hn
    obtain rfl : i = P := by omega
    rw [f_X8_able_l4, if_pos (nI_le (Nat.le_refl _) (by omega))]
  | succ d ih =>
    intro i n h hn
    obtain ⟨n, rfl⟩ := succ_of hn
    have key := ih (i + 1) n (by omega) (by omega)
    obtain ⟨a1, a2⟩ := h1 i (by omega)
    obtain ⟨c1, c2⟩ := h2 i (by omega)
    rw [f_X8_able_l4, if_neg (nI_ge (by omega) (by omega))]
    simp only [show (0 : Int32) + nI i = nI i from Int32.zero_add _, show (6 : Int32) + nI i = nI (6 + i) from nI_add 6 i]
    simp only [ivi_n (show i < 25 by omega) (by decide), ivi_n (show 6 + i < 25 by omega) (by decide), ck_t, cl (show i < 2 ^ 31 by omega), cl (show 6 + i < 2 ^ 31 by omega), a2, c2, f_X8_able_j44, f_X8_able_j45, nI_1, sh1 i (by omega)]
    rw [bset] at key
    by_cases e1 : hs i = 6
    · rw [if_pos (show (6 : Int32) ≤ nI (hs i) from nI_le (a := 6) (by omega) (by omega))]
      simpa [e1] using key
    · rw [if_neg (show ¬ (6 : Int32) ≤ nI (hs i) from nI_ge (b := 6) (by omega) (by decide))]
      rcases Nat.eq_zero_or_pos (lf i) with e2 | e2
      · rw [if_pos (show nI (lf i) ≤ 0 from nI_le (b := 0) (by omega) (by decide))]
        simpa [e2] using key
      · rw [if_neg (show ¬ nI (lf i) ≤ 0 from nI_ge (a := 0) (by omega) (by omega)), or_nI]
        simpa [e1, e2] using key
/-- who is able -/
def ableS (P : Nat) (hs lf : Nat → Nat) : Nat := bset (fun p => decide (hs p ≠ 6) && decide (0 < lf p)) P
theorem ableS_bit {P : Nat} {hs lf : Nat → Nat} {p : Nat} (hp : p < P) : (ableS P hs lf).testBit p = (decide (hs p ≠ 6) && decide (0 < lf p)) := by
  unfold ableS
  rw [bset_bit]
  simp [hp]
theorem ableS_lt (P : Nat) (hs lf : Nat → Nat) : ableS P hs lf < 2 ^ P := bset_lt _ _
theorem ableM {ρ : Type} {N : Nat} (hN : 200000 ≤ N) {P : Nat} (hP : P ≤ 6) {hs lf : Nat → Nat} {st : Nat → Int32} (h1 : ∀ p, p < P → hs p ≤ 6 ∧ st p = nI (hs p)) (h2 : ∀ p, p < P → lf p ≤ 9 ∧ st (6 + p) = nI (lf p)) (k : Int32 → Option ρ) : f_X8_able N (nI P) st k = k (nI (ableS P hs lf)) := ableM_l4 hP h1 h2 k P 0 N (by omega) (by omega)
theorem ableX {ρ : Type} {N : Nat} (hN : 200000 ≤ N) {P : Nat} (hP : P ≤ 6) {hs lf : Nat → Nat} {has left : Nat → Int32} (h1 : ∀ p, p < P → hs p ≤ 6 ∧ has p = (if hs p = 6 then -9 else nI (hs p))) (h2 : ∀ p, p < P → lf p ≤ 9 ∧ left p = nI (lf p)) (h3 : ∀ p, P ≤ p → p < 6 → has p = -9) (k : Int32 → Option ρ) : f_X0_able N has left k = k (nI (ableS P hs lf)) := by
  have e := able_l4 has left k 6 0 N (by omega) (by omega)
  refine e.trans ?_
  congr 2
  rw [bset_more (n := P) hP (fun i q1 q2 => by simp [h3 i q1 q2])]
  refine bset_cong (fun i hi => ?_)
  obtain ⟨a1, a2⟩ := h1 i hi
  obtain ⟨c1, c2⟩ := h2 i hi
  rw [a2, c2]
  by_cases e1 : hs i = 6
  · simp [e1]
  · rw [if_neg e1]
    have e3 := ne9 (a := hs i) (by omega)
    rcases Nat.eq_zero_or_pos (lf i) with e2 | e2
    · have : nI (lf i) ≤ 0 := nI_le (b := 0) (by omega) (by decide)
      simp [e2, this]
      exact fun _ => by decide
    · have : ¬ nI (lf i) ≤ 0 := nI_ge (a := 0) (by omega) (by omega)
      simp [e1, e2, e3, this]

