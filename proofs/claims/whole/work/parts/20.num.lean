/-! 20.num: numbers, bits, the small pure functions -/
theorem lit (n : Nat) : (OfNat.ofNat n : Int32) = nI n := rfl
theorem ck_t {α : Type} (k : Option α) : ck true k = k := rfl
theorem ivi_n {i n : Nat} (h : i < n) (hn : n < 2 ^ 31) : ivi (nI i) n = true := by
  have h1 := vp_in_nI h hn
  unfold vp_in at h1
  unfold ivi
  simp only [not_or] at h1
  simp [h1.1, Nat.not_le.mp h1.2]
theorem ck_i {α : Type} {i n : Nat} (h : i < n) (hn : n < 2 ^ 31) (k : Option α) : ck (ivi (nI i) n) k = k := by rw [ivi_n h hn]; rfl
theorem ck_z0 {α : Type} (k : Option α) : ck (isZ 0) k = k := rfl
theorem ck_z1 {α : Type} (k : Option α) : ck (isZ 1) k = k := rfl
theorem cl {n : Nat} (h : n < 2 ^ 31) : (nI n).toNatClampNeg = n := nI_clamp h
theorem sh1 : ∀ i, i < 31 → (1 : Int32) <<< (nI i &&& 31) = nI (2 ^ i) := by decide +kernel
theorem smod5 : ∀ i, i < 31 → (((nI i &&& 31 : Int32).toBitVec).smod 32).toNat = i := by decide +kernel
theorem bit1 {g i : Nat} (hg : g < 2 ^ 31) (hi : i < 31) : ((nI g >>> (nI i &&& 31)) &&& 1) = nI (if g.testBit i then 1 else 0) := by
  rw [pk_shrN hg _ i (smod5 i hi), pk_andN (Nat.lt_of_le_of_lt (Nat.div_le_self _ _) (by omega)) 1 (by decide)]
  congr 1
  rw [Nat.testBit_eq_decide_div_mod_eq]
  have : g / 2 ^ i % 2 = 0 ∨ g / 2 ^ i % 2 = 1 := by omega
  rcases this with h | h <;> simp [h]
theorem b01 (b : Bool) {α : Type} (A B : α) : (if (if b then (1 : Int32) else 0) = 0 then A else B) = if b then B else A := by cases b <;> rfl
theorem holds_n {ρ : Type} (N : Nat) {g i : Nat} (hg : g < 2 ^ 31) (hi : i < 31) (k : Int32 → Option ρ) : f_X7_holds N (nI g) (nI i) k = k (if g.testBit i then 1 else 0) := by
  unfold f_X7_holds
  rw [bit1 hg hi]
  cases g.testBit i <;> rfl
theorem has_n {ρ : Type} (N : Nat) {g i : Nat} (hg : g < 2 ^ 31) (hi : i < 31) (k : Int32 → Option ρ) : f_X8_has N (nI g) (nI i) k = k (if g.testBit i then 1 else 0) := holds_n N hg hi k
theorem in_w {ρ : Type} (N : Nat) (x a b : Int32) (k : Int32 → Option ρ) : f_X8_in N x a b k = f_X7_within N x a b k := rfl
/-- who is a person -/
theorem knows_no {ρ : Type} (N : Nat) {P : Nat} {x : Int32} (h : x < 0 ∨ nI P ≤ x) (k : Int32 → Option ρ) : f_X2_knows N (nI P) x k = k 0 := by
  unfold f_X2_knows
  by_cases h0 : x < 0
  · rw [if_pos h0]
  · rw [if_neg h0, if_pos (h.resolve_left h0)]
theorem knows_yes {ρ : Type} (N : Nat) {P j : Nat} (hP : P < 2 ^ 31) (h : j < P) (k : Int32 → Option ρ) : f_X2_knows N (nI P) (nI j) k = k 1 := by
  unfold f_X2_knows
  rw [if_neg (nI_pos (by omega)), if_neg (nI_ge h hP)]
theorem nI_sub1 {P : Nat} (h : 0 < P) : nI P - 1 = nI (P - 1) := by
  obtain ⟨n, rfl⟩ : ∃ n, P = n + 1 := ⟨P - 1, by omega⟩
  exact nI_pred n
theorem isPerson_no {ρ : Type} (N : Nat) {P : Nat} (hP : P ≤ 6) {x : Int32} (h : x < 0 ∨ nI P ≤ x) (k : Int32 → Option ρ) : f_X8_isPerson N (nI P) x k = k 0 := by
  unfold f_X8_isPerson f_X8_in
  by_cases h0 : x < 0
  · rw [if_pos h0]; rfl
  · have h1 := h.resolve_left h0
    rw [if_neg h0]
    have h2 : nI P - 1 < x := by
      rcases Nat.eq_zero_or_pos P with rfl | hp
      · exact Int32.lt_of_lt_of_le (by decide) h1
      · rw [nI_sub1 hp]
        exact Int32.lt_of_lt_of_le (nI_lt (by omega) (by omega)) h1
    rw [if_pos h2]; rfl
theorem isPerson_yes {ρ : Type} (N : Nat) {P j : Nat} (hP : P ≤ 6) (h : j < P) (k : Int32 → Option ρ) : f_X8_isPerson N (nI P) (nI j) k = k 1 := by
  unfold f_X8_isPerson f_X8_in
  rw [if_neg (nI_pos (by omega)), nI_sub1 (by omega), if_neg (nI_nlt (by omega) (by omega))]; rfl
/-- a set out of a yes or no for each place -/
def bset (p : Nat → Bool) : Nat → Nat
  | 0 => 0
  | n + 1 => bset p n ||| (if p n then 2 ^ n else 0)
theorem bset_bit (p : Nat → Bool) : ∀ n i, (bset p n).testBit i = (decide (i < n) && p i)
  | 0, i => by simp [bset]
  | n + 1, i => by
    rw [bset, Nat.testBit_or, bset_bit p n i]
    by_cases h : p n = true
    · rw [if_pos h, Nat.testBit_two_pow]
      by_cases e : n = i
      · subst e; simp [h]
      · simp [e]
        have : i < n + 1 ↔ i < n := by omega
        simp [this]
    · rw [if_neg h, Nat.zero_testBit]
      by_cases e : n = i
      · subst e; simp [h]
      · have : i < n + 1 ↔ i < n := by omega
        simp [this]
theorem bset_lt (p : Nat → Bool) (n : Nat) : bset p n < 2 ^ n := by
  apply Nat.lt_pow_two_of_testBit
  intro i hi
  rw [bset_bit]
  have : ¬ i < n := by omega
  simp [this]
theorem bset_cong {p q : Nat → Bool} : ∀ {n : Nat}, (∀ i, i < n → p i = q i) → bset p n = bset q n
  | 0, _ => rfl
  | n + 1, h => by rw [bset, bset, bset_cong (fun i hi => h i (by omega)), h n (by omega)]
theorem bset_more {p : Nat → Bool} {n : Nat} : ∀ {m : Nat}, n ≤ m → (∀ i, n ≤ i → i < m → p i = false) → bset p m = bset p n
  | 0, h, _ => by rw [show n = 0 by omega]
  | m + 1, h, hf => by
    rcases Nat.lt_or_ge m n with q | q
    · rw [show n = m + 1 by omega]
    · rw [bset, bset_more q (fun i h1 h2 => hf i h1 (by omega)), hf m q (by omega)]
      simp
theorem or_nI (a b : Nat) : nI a ||| nI b = nI (a ||| b) := by
  apply Int32.toBitVec_inj.mp
  apply BitVec.eq_of_toNat_eq
  simp [nI]
theorem and_nI (a b : Nat) : nI a &&& nI b = nI (a &&& b) := by
  apply Int32.toBitVec_inj.mp
  apply BitVec.eq_of_toNat_eq
  simp [nI]
theorem le_n {a b : Nat} (h : a ≤ b) (hb : b < 2 ^ 31) : nI a ≤ nI b := nI_le h hb
theorem nle_n {a b : Nat} (h : a < b) (hb : b < 2 ^ 31) : ¬ nI b ≤ nI a := nI_ge h hb
theorem inj_n {a b : Nat} (ha : a < 2 ^ 31) (hb : b < 2 ^ 31) (h : nI a = nI b) : a = b := (nI_eq ha hb).mp h
theorem ne9 {a : Nat} (ha : a < 2 ^ 31) : ¬ nI a = (-9 : Int32) := fun h => by
  have h1 := congrArg Int32.toInt h
  rw [nI_toInt ha] at h1
  have : (-9 : Int32).toInt = -9 := by decide
  omega
theorem upd_s (f : Nat → Int32) (i : Nat) (x : Int32) : upd f i x i = x := pk_us
theorem upd_n {f : Nat → Int32} {i j : Nat} {x : Int32} (h : j ≠ i) : upd f i x j = f j := pk_un h
