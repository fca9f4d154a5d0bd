/-! 23.hist: copies, what is remembered, undo, images -/
def cpy (n : Nat) (f g : Nat → Int32) : Nat → Int32 := fun j => if j < n then f j else g j
theorem cpy_0 (f g : Nat → Int32) : cpy 0 f g = g := by funext j; simp [cpy]
theorem cpy_s (n : Nat) (f g : Nat → Int32) : upd (cpy n f g) n (f n) = cpy (n + 1) f g := by
  funext j
  by_cases e : j = n
  · subst e; rw [upd_s]; simp [cpy]
  · rw [upd_n e]
    unfold cpy
    by_cases h : j < n
    · rw [if_pos h, if_pos (by omega)]
    · rw [if_neg h, if_neg (by omega)]
theorem cpy_in {n : Nat} {f g : Nat → Int32} {j : Nat} (h : j < n) : cpy n f g j = f j := if_pos h
theorem succ_of {d n : Nat} (h : d < n) : ∃ m, n = m + 1 := ⟨n - 1, by omega⟩
theorem become_l2 {ρ : Type} (wh wl zh zl : Nat → Int32) (k : (Nat → Int32) → (Nat → Int32) → Option ρ) : ∀ (d i n : Nat), i + d = 6 → d < n → f_X0_become_l2 wh wl k n (nI i) (cpy i wh zh) (cpy i wl zl) = k (cpy 6 wh zh) (cpy 6 wl zl) := by
  intro d
  induction d with
  | zero =>
    intro i n h hn
    obtain ⟨n, rfl⟩ := succ_of hn
    obtain rfl : i = 6 := by omega
    rw [f_X0_become_l2, if_pos (show (6 : Int32) ≤ nI 6 by decide)]
  | succ d ih =>
    intro i n h hn
    obtain ⟨n, rfl⟩ := succ_of hn
    rw [f_X0_become_l2, if_neg (show ¬ (6 : Int32) ≤ nI i from nI_ge (b := 6) (by omega) (by decide))]
    simp only [ivi_n (show i < 6 by omega) (by decide), ck_t, cl (show i < 2 ^ 31 by omega), nI_1, cpy_s]
    exact ih (i + 1) n (by omega) (by omega)
theorem become_l40 {ρ : Type} (wb zb : Nat → Int32) (k : (Nat → Int32) → Option ρ) : ∀ (d i n : Nat), i + d = 8 → d < n → f_X0_become_l40 wb k n (nI i) (cpy i wb zb) = k (cpy 8 wb zb) := by
  intro d
  induction d with
  | zero =>
    intro i n h hn
    obtain ⟨n, rfl⟩ := succ_of hn
    obtain rfl : i = 8 := by omega
    rw [f_X0_become_l40, if_pos (show (8 : Int32) ≤ nI 8 by decide)]
  | succ d ih =>
    intro i n h hn
    obtain ⟨n, rfl⟩ := succ_of hn
    rw [f_X0_become_l40, if_neg (show ¬ (8 : Int32) ≤ nI i from nI_ge (b := 8) (by omega) (by decide))]
    simp only [ivi_n (show i < 8 by omega) (by decide), ck_t, cl (show i < 2 ^ 31 by omega), nI_1, cpy_s]
    exact ih (i + 1) n (by omega) (by omega)
theorem become_e {ρ : Type} {N : Nat} (hN : 200000 ≤ N) (bc gv md gn lw : Int32) (wh zh wl zl wb zb : Nat → Int32) (k : Int32 → Int32 → Int32 → Int32 → Int32 → (Nat → Int32) → (Nat → Int32) → (Nat → Int32) → Option ρ) : f_X0_become N bc gv md gn lw wh zh wl zl wb zb k = k bc gv md gn lw (cpy 6 wh zh) (cpy 6 wl zl) (cpy 8 wb zb) := by
  unfold f_X0_become
  have h1 := become_l2 wh wl zh zl (fun z_has_e38 z_left_e38 => f_X0_become_e38 zb bc gv md gn lw wb k N z_has_e38 z_left_e38) 6 0 N (by omega) (by omega)
  rw [cpy_0, cpy_0] at h1
  refine h1.trans ?_
  unfold f_X0_become_e38
  have h2 := become_l40 wb zb (fun z_bits_e64 => f_X0_become_e64 bc gv md gn lw (cpy 6 wh zh) (cpy 6 wl zl) k z_bits_e64) 8 0 N (by omega) (by omega)
  rw [cpy_0] at h2
  exact h2
/-- d, but from a on n places of e from b on -/
def blt (d e : Nat → Int32) (a b n : Nat) : Nat → Int32 := fun j => if a ≤ j ∧ j < a + n then e (b + (j - a)) else d j
theorem blt_0 (d e : Nat → Int32) (a b : Nat) : blt d e a b 0 = d := by
  funext j
  unfold blt
  rw [if_neg (by omega)]
theorem blt_s (d e : Nat → Int32) (a b n : Nat) : upd (blt d e a b n) (a + n) (e (b + n)) = blt d e a b (n + 1) := by
  funext j
  by_cases h : j = a + n
  · subst h
    rw [upd_s]
    unfold blt
    rw [if_pos (by omega), Nat.add_sub_cancel_left]
  · rw [upd_n h]
    unfold blt
    by_cases h2 : a ≤ j ∧ j < a + n
    · rw [if_pos h2, if_pos (by omega)]
    · rw [if_neg h2, if_neg (by omega)]
theorem blt_in {d e : Nat → Int32} {a b n k : Nat} (h : k < n) : blt d e a b n (a + k) = e (b + k) := by
  unfold blt
  rw [if_pos (by omega), Nat.add_sub_cancel_left]
theorem blt_out {d e : Nat → Int32} {a b n j : Nat} (h : j < a ∨ a + n ≤ j) : blt d e a b n j = d j := by
  unfold blt
  rw [if_neg (by omega)]
theorem copy_l3 {ρ : Type} (d e : Nat → Int32) (a b en dn : Nat) (ha : a + 25 ≤ dn) (hb : b + 25 ≤ en) (hd : dn < 2 ^ 31) (he : en < 2 ^ 31) (k : (Nat → Int32) → Option ρ) : ∀ (r i n : Nat), i + r = 25 → r < n → f_X8_copy_l3 (nI a) e (nI b) en dn k n (nI i) (blt d e a b i) = k (blt d e a b 25) := by
  intro r
  induction r with
  | zero =>
    intro i n h hn
    obtain ⟨n, rfl⟩ := succ_of hn
    obtain rfl : i = 25 := by omega
    rw [f_X8_copy_l3, if_pos (show (25 : Int32) ≤ nI 25 by decide)]
  | succ r ih =>
    intro i n h hn
    obtain ⟨n, rfl⟩ := succ_of hn
    rw [f_X8_copy_l3, if_neg (show ¬ (25 : Int32) ≤ nI i from nI_ge (b := 25) (by omega) (by decide))]
    simp only [nI_add, nI_1]
    rw [ivi_n (show b + i < en by omega) he, ck_t, ivi_n (show a + i < dn by omega) hd, ck_t, cl (by omega), cl (by omega), blt_s]
    exact ih (i + 1) n (by omega) (by omega)
theorem copy_e {ρ : Type} {N : Nat} (hN : 200000 ≤ N) (e d : Nat → Int32) {a b en dn : Nat} (ha : a + 25 ≤ dn) (hb : b + 25 ≤ en) (hd : dn < 2 ^ 31) (he : en < 2 ^ 31) (k : (Nat → Int32) → Option ρ) : f_X8_copy N e d en dn (nI a) (nI b) k = k (blt d e a b 25) := by
  unfold f_X8_copy
  have h := copy_l3 d e a b en dn ha hb hd he k 25 0 N (by omega) (by omega)
  rw [blt_0] at h
  exact h
theorem Ra_cong {P : Nat} {has left bits st has' left' bits' st' : Nat → Int32} {bc gv md gn lw : Int32} (h : Ra P has left bits bc gv md gn lw st) (hP : P ≤ 6) (h1 : ∀ p, p < 6 → has' p = has p) (h2 : ∀ p, p < 6 → left' p = left p) (h3 : ∀ k, k < 8 → bits' k = bits k) (h4 : ∀ k, k < 25 → st' k = st k) : Ra P has' left' bits' bc gv md gn lw st' := by
  obtain ⟨hs, lf, bt, g, c, n, w, b1, b2, b3, b4, ⟨g1, g2, g3, g4⟩, ⟨c1, c2, c3, c4⟩, b7, ⟨n1, n2, n3⟩, ⟨w1, w2, w3⟩⟩ := h
  refine ⟨hs, lf, bt, g, c, n, w, fun p hp => ?_, b2, fun p q1 q2 => ?_, fun p hp => ?_, ⟨g1, g2, ?_, g4⟩, ⟨c1, c2, ?_, fun k hk => ?_⟩, ?_, ⟨n1, n2, ?_⟩, ⟨w1, w2, ?_⟩⟩
  · rw [h1 p (by omega), h4 p (by omega)]; exact b1 p hp
  · rw [h1 p q2, h2 p q2]; exact b3 p q1 q2
  · rw [h2 p (by omega), h4 (6 + p) (by omega)]; exact b4 p hp
  · rw [h4 12 (by omega)]; exact g3
  · rw [h4 13 (by omega)]; exact c3
  · rw [h3 k (by omega), h4 (14 + k) (by omega)]; exact c4 k hk
  · rw [h4 22 (by omega)]; exact b7
  · rw [h4 23 (by omega)]; exact n3
  · rw [h4 24 (by omega)]; exact w3
theorem va_up_s {α : Type} (f : Nat → α) (i : Nat) (x : α) : va_up f i x i = x := va_up_self f i x
/-- all that was known, a place nearer to the start -/
def shl (was : Nat → Int32) (i : Nat) : Nat → Int32 := fun j => if j < i then was (j + 25) else was j
theorem shl_s (was : Nat → Int32) (i : Nat) : upd (shl was i) i (shl was i (i + 25)) = shl was (i + 1) := by
  funext j
  by_cases e : j = i
  · subst e
    rw [upd_s]
    unfold shl
    rw [if_neg (by omega), if_pos (by omega)]
  · rw [upd_n e]
    unfold shl
    by_cases h : j < i
    · rw [if_pos h, if_pos (by omega)]
    · rw [if_neg h, if_neg (by omega)]
theorem rem_l11 {ρ : Type} (was : Nat → Int32) (k : (Nat → Int32) → Option ρ) : ∀ (r i n : Nat), i + r = 225 → r < n → f_X8_remembers_l11 k n (nI i) (shl was i) = k (shl was 225) := by
  intro r
  induction r with
  | zero =>
    intro i n h hn
    obtain ⟨n, rfl⟩ := succ_of hn
    obtain rfl : i = 225 := by omega
    rw [f_X8_remembers_l11, if_pos (show (225 : Int32) ≤ nI 225 by decide)]
  | succ r ih =>
    intro i n h hn
    obtain ⟨n, rfl⟩ := succ_of hn
    rw [f_X8_remembers_l11, if_neg (show ¬ (225 : Int32) ≤ nI i from nI_ge (b := 225) (by omega) (by decide))]
    rw [show nI i + 25 = nI (i + 25) from nI_add i 25, ivi_n (show i + 25 < 250 by omega) (by decide), ck_t, ivi_n (show i < 250 by omega) (by decide), ck_t, cl (by omega), cl (by omega), nI_1, shl_s]
    exact ih (i + 1) n (by omega) (by omega)
theorem mul25 (n : Nat) : (25 : Int32) * nI n = nI (25 * n) := pk_mul 25 n
/-- a deed is remembered -/
theorem co_rem {N : Nat} (hN : 200000 ≤ N) {P : Nat} (hP : P ≤ 6) {next known mknown : Int32} {rh rl rb : Nat → Nat → Int32} {rc rg rm rn rw : Nat → Int32} {was : Nat → Int32} (hy : Ry P next known rh rl rb rc rg rm rn rw mknown was) {has left bits : Nat → Int32} {bc gv md gn lw : Int32} {st : Nat → Int32} (ha : Ra P has left bits bc gv md gn lw st) :
    ∃ (next' known' : Int32) (rh' rl' rb' : Nat → Nat → Int32) (rc' rg' rm' rn' rw' : Nat → Int32) (mknown' : Int32) (was' : Nat → Int32), (∀ (ρ : Type) (k : Int32 → Int32 → (Nat → Nat → Int32) → (Nat → Nat → Int32) → (Nat → Nat → Int32) → (Nat → Int32) → (Nat → Int32) → (Nat → Int32) → (Nat → Int32) → (Nat → Int32) → Option ρ), f_X1_remember N next known rh rl rb rc rg rm rn rw bc gv md gn lw has left bits k = k next' known' rh' rl' rb' rc' rg' rm' rn' rw') ∧
      (∀ (ρ : Type) (k : Int32 → (Nat → Int32) → Option ρ), f_X8_remembers N mknown was st k = k mknown' was') ∧ Ry P next' known' rh' rl' rb' rc' rg' rm' rn' rw' mknown' was' := by
  obtain ⟨n, x, hn, hx, rfl, rfl, rfl, hr⟩ := hy
  have hx1 : ∀ (ρ : Type) (k : Int32 → Int32 → (Nat → Nat → Int32) → (Nat → Nat → Int32) → (Nat → Nat → Int32) → (Nat → Int32) → (Nat → Int32) → (Nat → Int32) → (Nat → Int32) → (Nat → Int32) → Option ρ), f_X1_remember N (nI x) (nI n) rh rl rb rc rg rm rn rw bc gv md gn lw has left bits k = k (nI ((x + 1) % 10)) (nI (if n < 10 then n + 1 else 10)) (va_up rh x (cpy 6 has (rh x))) (va_up rl x (cpy 6 left (rl x))) (va_up rb x (cpy 8 bits (rb x))) (va_up rc x bc) (va_up rg x gv) (va_up rm x md) (va_up rn x gn) (va_up rw x lw) := by
    intro ρ k
    unfold f_X1_remember
    rw [ivi_n hx (by decide), ck_t, become_e hN, cl (by omega), nI_1]
    have hk : (if nI n + 1 < (10 : Int32) then nI n + 1 else 10) = nI (if n < 10 then n + 1 else 10) := by
      rw [nI_1]
      rcases Nat.lt_or_ge n 9 with q | q
      · rw [if_pos (show nI (n + 1) < (10 : Int32) from nI_lt (b := 10) (by omega) (by decide)), if_pos (by omega)]
      · rw [if_neg (show ¬ nI (n + 1) < (10 : Int32) from nI_nlt (b := 10) (by omega) (by omega))]
        by_cases h9 : n < 10
        · rw [if_pos h9, show n = 9 by omega]; rfl
        · rw [if_neg h9]; rfl
    rcases Nat.lt_or_ge x 9 with q | q
    · rw [if_neg (show ¬ (10 : Int32) ≤ nI (x + 1) from nI_ge (b := 10) (by omega) (by decide))]
      unfold f_X1_remember_j35
      rw [hk, cl (by omega), Nat.mod_eq_of_lt (show x + 1 < 10 by omega)]
    · obtain rfl : x = 9 := by omega
      rw [if_pos (show (10 : Int32) ≤ nI (9 + 1) by decide)]
      unfold f_X1_remember_j35
      rw [hk, cl (by omega)]
      rfl
  have hRy : ∀ was' : Nat → Int32, (∀ k, k < 25 → was' (25 * ((if n < 10 then n + 1 else 10) - 1) + k) = st k) → (∀ j k, j < (if n < 10 then n + 1 else 10) → 1 ≤ j → k < 25 → was' (25 * ((if n < 10 then n + 1 else 10) - 1 - j) + k) = was (25 * (n - 1 - (j - 1)) + k)) → Ry P (nI ((x + 1) % 10)) (nI (if n < 10 then n + 1 else 10)) (va_up rh x (cpy 6 has (rh x))) (va_up rl x (cpy 6 left (rl x))) (va_up rb x (cpy 8 bits (rb x))) (va_up rc x bc) (va_up rg x gv) (va_up rm x md) (va_up rn x gn) (va_up rw x lw) (nI (if n < 10 then n + 1 else 10)) was' := by
    intro was' w1 w2
    refine ⟨if n < 10 then n + 1 else 10, (x + 1) % 10, by split <;> omega, by omega, rfl, rfl, rfl, fun j hj => ?_⟩
    rcases Nat.eq_zero_or_pos j with rfl | hj0
    · have e : ((x + 1) % 10 + 9 - 0) % 10 = x := by omega
      rw [e, va_up_s, va_up_s, va_up_s, va_up_s, va_up_s, va_up_s, va_up_s, va_up_s]
      exact Ra_cong ha hP (fun p hp => cpy_in hp) (fun p hp => cpy_in hp) (fun p hp => cpy_in hp) (fun k hk => w1 k hk)
    · have hj10 : j < 10 := by split at hj <;> omega
      have e : ((x + 1) % 10 + 9 - j) % 10 = (x + 9 - (j - 1)) % 10 := by omega
      have hne : (x + 9 - (j - 1)) % 10 ≠ x := by omega
      rw [e, va_up_ne _ _ hne, va_up_ne _ _ hne, va_up_ne _ _ hne, va_up_ne _ _ hne, va_up_ne _ _ hne, va_up_ne _ _ hne, va_up_ne _ _ hne, va_up_ne _ _ hne]
      exact Ra_cong (hr (j - 1) (by split at hj <;> omega)) hP (fun p hp => rfl) (fun p hp => rfl) (fun p hp => rfl) (fun k hk => w2 j k hj hj0 hk)
  rcases Nat.lt_or_ge n 10 with q | q
  · have e : (if n < 10 then n + 1 else 10) = n + 1 := if_pos q
    rw [e] at hx1 hRy
    refine ⟨_, _, _, _, _, _, _, _, _, _, nI (n + 1), blt was st (25 * n) 0 25, hx1, fun ρ k => ?_, hRy _ (fun k hk => ?_) (fun j k hj hj0 hk => ?_)⟩
    · unfold f_X8_remembers
      rw [if_neg (show ¬ nI n = (10 : Int32) from fun h => absurd (inj_n (b := 10) (by omega) (by decide) h) (by omega))]
      unfold f_X8_remembers_j49
      rw [mul25, show (0 : Int32) = nI 0 from rfl, copy_e hN st was (by omega) (by omega) (by decide) (by decide), nI_1]
    · rw [show n + 1 - 1 = n by omega, blt_in hk, Nat.zero_add]
    · rw [blt_out (by omega), show n + 1 - 1 - j = n - 1 - (j - 1) by omega]
  · obtain rfl : n = 10 := by omega
    have e : (if 10 < 10 then 10 + 1 else 10) = 10 := rfl
    rw [e] at hx1 hRy
    refine ⟨_, _, _, _, _, _, _, _, _, _, nI 10, blt (shl was 225) st 225 0 25, hx1, fun ρ k => ?_, hRy _ (fun k hk => ?_) (fun j k hj hj0 hk => ?_)⟩
    · unfold f_X8_remembers
      rw [if_pos (show nI 10 = (10 : Int32) from rfl)]
      have h0 : shl was 0 = was := by funext j; unfold shl; rw [if_neg (by omega)]
      have h := rem_l11 was (fun z_was_e39 => f_X8_remembers_e39 (nI 10) st k N z_was_e39) 225 0 N (by omega) (by omega)
      rw [h0] at h
      refine h.trans ?_
      unfold f_X8_remembers_e39 f_X8_remembers_j49
      rw [show nI 10 - 1 = nI 9 from nI_pred 9, mul25, show (0 : Int32) = nI 0 from rfl, copy_e hN st (shl was 225) (by omega) (by omega) (by decide) (by decide)]
      rfl
    · rw [show 25 * (10 - 1) = 225 by omega, blt_in hk, Nat.zero_add]
    · rw [blt_out (by omega)]
      unfold shl
      rw [if_pos (by omega)]
      congr 1
      omega

