/-! 37.odds: the odds of who comes -/
def sumF (F : Nat → Nat) : Nat → Nat → Nat
  | 0, _ => 0
  | d + 1, i => F i + sumF F d (i + 1)
theorem sumF_add (F : Nat → Nat) (b : Nat) : ∀ a i, sumF F (a + b) i = sumF F a i + sumF F b (i + a)
  | 0, i => by rw [Nat.zero_add, sumF, Nat.zero_add, Nat.add_zero]
  | a + 1, i => by rw [show a + 1 + b = (a + b) + 1 by omega, sumF, sumF, sumF_add F b a (i + 1), show i + 1 + a = i + (a + 1) by omega, Nat.add_assoc]
theorem sumF_shift (F : Nat → Nat) (c : Nat) : ∀ d i, sumF F d (i + c) = sumF (fun j => F (j + c)) d i
  | 0, _ => rfl
  | d + 1, i => by rw [sumF, sumF, show i + c + 1 = (i + 1) + c by omega, sumF_shift F c d (i + 1)]
theorem sumF_cong {F G : Nat → Nat} : ∀ d i, (∀ j, i ≤ j → j < i + d → F j = G j) → sumF F d i = sumF G d i
  | 0, _, _ => rfl
  | d + 1, i, h => by rw [sumF, sumF, h i (by omega) (by omega), sumF_cong d (i + 1) (fun j h1 h2 => h j (by omega) (by omega))]
theorem sumF_zero {F : Nat → Nat} : ∀ d i, (∀ j, i ≤ j → j < i + d → F j = 0) → sumF F d i = 0
  | 0, _, _ => rfl
  | d + 1, i, h => by rw [sumF, h i (by omega) (by omega), sumF_zero d (i + 1) (fun j h1 h2 => h j (by omega) (by omega))]
theorem sumF_le {F : Nat → Nat} {M : Nat} (h : ∀ j, F j ≤ M) : ∀ d i, sumF F d i ≤ M * d
  | 0, _ => Nat.zero_le _
  | d + 1, i => by
    rw [sumF, Nat.mul_succ]
    have h1 := h i
    have h2 := sumF_le h d (i + 1)
    omega
theorem add_or {n t : Nat} (h : t < 2 ^ n) : t + 2 ^ n = t ||| 2 ^ n := by
  have := Nat.two_pow_add_eq_or_of_lt h 1
  rw [Nat.mul_one] at this
  rw [Nat.add_comm, this, Nat.or_comm]
/-- those without p, and the same with p -/
theorem sum_swap : ∀ (n : Nat) (F G : Nat → Nat) (p : Nat), p < n → (∀ t, t < 2 ^ n → t.testBit p = true → F t = 0) → (∀ t, t < 2 ^ n → t.testBit p = false → G t = 0) → (∀ t, t < 2 ^ n → t.testBit p = false → G (t ||| 2 ^ p) = F t) → sumF F (2 ^ n) 0 = sumF G (2 ^ n) 0
  | 0, _, _, p, h, _, _, _ => absurd h (by omega)
  | n + 1, F, G, p, hp, h1, h2, h3 => by
    have e2 : 2 ^ (n + 1) = 2 ^ n + 2 ^ n := by rw [Nat.pow_succ]; omega
    have ebit : ∀ t, t < 2 ^ n → (t + 2 ^ n).testBit n = true := fun t ht => by
      rw [add_or ht, Nat.testBit_or, Nat.testBit_two_pow, decide_eq_true rfl, Bool.or_true]
    rw [e2, sumF_add, sumF_add, sumF_shift, sumF_shift]
    by_cases e : p = n
    · subst e
      rw [sumF_zero (F := fun j => F (j + 2 ^ p)) (2 ^ p) 0 (fun j _ hj => h1 _ (by omega) (ebit j (by omega))), sumF_zero (F := G) (2 ^ p) 0 (fun j _ hj => h2 j (by omega) (bit_out (P := p) (by omega) (Nat.le_refl _))), Nat.zero_add, Nat.add_zero]
      exact sumF_cong (2 ^ p) 0 (fun j _ hj => by
        rw [add_or (by omega)]
        exact (h3 j (by omega) (bit_out (P := p) (by omega) (Nat.le_refl _))).symm)
    · have hlow : ∀ t, (t + 2 ^ n).testBit p = t.testBit p := fun t => by
        rw [Nat.add_comm]; exact Nat.testBit_two_pow_add_gt (by omega) t
      have hor : ∀ t, t < 2 ^ n → t ||| 2 ^ p < 2 ^ n := fun t ht => Nat.lt_pow_two_of_testBit _ (fun i hi => by
        rw [Nat.testBit_or, bit_out ht hi, Nat.testBit_two_pow, decide_eq_false (by omega)]; rfl)
      rw [sum_swap n F G p (by omega) (fun t ht => h1 t (by omega)) (fun t ht => h2 t (by omega)) (fun t ht => h3 t (by omega))]
      rw [sum_swap n (fun j => F (j + 2 ^ n)) (fun j => G (j + 2 ^ n)) p (by omega) (fun t ht hb => h1 _ (by omega) (by rw [hlow]; exact hb)) (fun t ht hb => h2 _ (by omega) (by rw [hlow]; exact hb)) (fun t ht hb => by
        have := h3 (t + 2 ^ n) (by omega) (by rw [hlow]; exact hb)
        rw [← this, add_or (hor t ht), add_or ht]
        congr 1
        rw [Nat.or_assoc, Nat.or_assoc, Nat.or_comm (2 ^ p)])]
theorem popc_P {g P : Nat} (hg : g < 2 ^ P) : ∀ n, P ≤ n → popc g n = popc g P
  | 0, h => by rw [show P = 0 by omega]
  | n + 1, h => by
    by_cases e : P = n + 1
    · rw [e]
    · rw [popc, bit_out hg (show P ≤ n by omega), popc_P hg n (by omega)]; rfl
theorem power_l4 {ρ : Type} {x m : Nat} (hm : m ≤ 8) (k : Int32 → Option ρ) : ∀ (d i n : Nat), i + d = m → d < n → f_X7_power_l4 (nI x) (nI m) k n (nI (x ^ i)) (nI i) = k (nI (x ^ m)) := by
  intro d
  induction d with
  | zero =>
    intro i n h1 hn
    obtain ⟨n, rfl⟩ := succ_of hn
    obtain rfl : i = m := by omega
    rw [f_X7_power_l4, if_pos (nI_le (Nat.le_refl _) (by omega))]
  | succ d ih =>
    intro i n h1 hn
    obtain ⟨n, rfl⟩ := succ_of hn
    rw [f_X7_power_l4, if_neg (nI_ge (by omega) (by omega)), pk_mul, nI_1, ← Nat.pow_succ]
    exact ih (i + 1) n (by omega) (by omega)
theorem power_e {ρ : Type} {N : Nat} (hN : 200000 ≤ N) {x m : Nat} (hm : m ≤ 8) (k : Int32 → Option ρ) : f_X7_power N (nI x) (nI m) k = k (nI (x ^ m)) := power_l4 hm k m 0 N (by omega) (by omega)
def term (O x t : Nat) : Nat := x ^ popc t 8 * (10 - x) ^ (popc O 8 - popc t 8)
def FX (P : Nat) (WL : Nat → List Nat) (WT hs : Nat → Nat) (w p O x t : Nat) : Nat := if decide (dif t O = 0) && (Nt P WL WT hs w (t ||| 2 ^ p)).2.1.testBit p then term O x t else 0
def FM (P : Nat) (WL : Nat → List Nat) (WT hs : Nat → Nat) (w p A O x y : Nat) : Nat := if decide (dif y A = 0) && (y.testBit p && (Nt P WL WT hs w y).2.1.testBit p) then term O x (dif y (2 ^ p)) else 0
theorem term_le {O x t : Nat} (hO : O < 64) (hx : x ≤ 10) (ht : dif t O = 0) : term O x t ≤ 1000000 := by
  have h1 := popc_dif (dif_0_sub ht) 8
  have h2 : popc O 8 ≤ 6 := by rw [popc_68 hO]; exact popc_le _ _
  unfold term
  refine Nat.le_trans (Nat.mul_le_mul (Nat.pow_le_pow_left hx _) (Nat.pow_le_pow_left (show 10 - x ≤ 10 by omega) _)) ?_
  rw [← Nat.pow_add, show popc t 8 + (popc O 8 - popc t 8) = popc O 8 by omega]
  exact Nat.pow_le_pow_right (by decide) h2
theorem FX_le {P : Nat} {WL : Nat → List Nat} {WT hs : Nat → Nat} {w p O x : Nat} (hO : O < 64) (hx : x ≤ 10) (t : Nat) : FX P WL WT hs w p O x t ≤ 1000000 := by
  unfold FX
  split
  · rename_i h
    rw [Bool.and_eq_true_iff, decide_eq_true_eq] at h
    exact term_le hO hx h.1
  · omega
theorem sub_dif0 {t A : Nat} (h : sub t A) : dif t A = 0 := Nat.eq_of_testBit_eq (fun i => by
  rw [dif_bit, Nat.zero_testBit]
  cases e : t.testBit i
  · rfl
  · rw [h i e]; rfl)
theorem odds_eq {P : Nat} (WL : Nat → List Nat) (WT hs : Nat → Nat) (w : Nat) {p A : Nat} (x : Nat) (hp : p < P) (hA : A.testBit p = true) : sumF (FX P WL WT hs w p (dif A (2 ^ p)) x) (2 ^ P) 0 = sumF (FM P WL WT hs w p A (dif A (2 ^ p)) x) (2 ^ P) 0 := by
  refine sum_swap P _ _ p hp (fun t _ hb => ?_) (fun t _ hb => ?_) (fun t _ hb => ?_)
  · unfold FX
    have : ¬ dif t (dif A (2 ^ p)) = 0 := fun h => by
      have := dif_0_sub h p hb
      rw [dif_bit, Nat.testBit_two_pow, decide_eq_true rfl, Bool.not_true, Bool.and_false] at this
      exact absurd this (by decide)
    rw [decide_eq_false this]; rfl
  · unfold FM
    rw [hb, Bool.false_and, Bool.and_false]; rfl
  · unfold FX FM
    have e1 : dif (t ||| 2 ^ p) (2 ^ p) = t := Nat.eq_of_testBit_eq (fun i => by
      rw [dif_bit, Nat.testBit_or, Nat.testBit_two_pow]
      by_cases e : p = i
      · subst e; rw [hb, decide_eq_true rfl]; rfl
      · rw [decide_eq_false e, Bool.or_false, Bool.not_false, Bool.and_true])
    have e2 : (t ||| 2 ^ p).testBit p = true := by rw [Nat.testBit_or, Nat.testBit_two_pow, decide_eq_true rfl, Bool.or_true]
    have e3 : dif (t ||| 2 ^ p) A = 0 ↔ dif t (dif A (2 ^ p)) = 0 := by
      constructor
      · intro h
        refine sub_dif0 (fun i hi => ?_)
        have h1 := dif_0_sub h i (by rw [Nat.testBit_or, hi, Bool.true_or])
        rw [dif_bit, h1, Nat.testBit_two_pow]
        by_cases e : p = i
        · subst e; rw [hb] at hi; exact absurd hi (by decide)
        · rw [decide_eq_false e]; rfl
      · intro h
        refine sub_dif0 (fun i hi => ?_)
        rw [Nat.testBit_or, Nat.testBit_two_pow, Bool.or_eq_true_iff] at hi
        rcases hi with hi | hi
        · exact sub_dif _ _ i (dif_0_sub h i hi)
        · rw [decide_eq_true_eq] at hi; subst hi; exact hA
    rw [e1, e2, Bool.true_and, decide_eq_decide.mpr e3]
theorem oddsX_l73 {N : Nat} (hN : 200000 ≤ N) {P : Nat} {WL : Nat → List Nat} {WT hs lf : Nat → Nat} {wc : Nat → Int32} {wanted : Nat → Nat → Int32} {weight : Nat → Int32} (H : HX P WL WT wc wanted weight) {w : Nat} (hw : w ≤ 2) {has st : Nat → Int32} (b1 : ∀ p, p < P → hs p ≤ 6 ∧ (hs p ≠ 6 → hs p < P) ∧ has p = (if hs p = 6 then -9 else nI (hs p)) ∧ st p = nI (hs p)) (b2 : ∀ p, p < P → ∀ q, q < P → hs p = hs q → hs p ≠ 6 → p = q) {p x : Nat} (hp : p < P) (hx : x ≤ 10) (hA : (ableS P hs lf).testBit p = true) : ∀ (d i n a : Nat) (kl kc kr : Int32) (giver got gave aims lumps : Nat → Int32), i + d = 2 ^ P → d < n → ∃ kl' kc' kr' giver' got' gave' aims' lumps', ∀ (ρ : Type) (k : Int32 → Int32 → Int32 → Int32 → (Nat → Int32) → (Nat → Int32) → (Nat → Int32) → (Nat → Int32) → (Nat → Int32) → Option ρ), f_X7_odds_l73 (nI p) (nI x) (nI P) (nI w) has wc wanted weight (nI (ableS P hs lf)) k N n (nI a) (nI i) kl kc kr giver got gave aims lumps = k (nI (a + sumF (FX P WL WT hs w p (dif (ableS P hs lf) (2 ^ p)) x) d i)) kl' kc' kr' giver' got' gave' aims' lumps' := by
  have hP := H.hP
  have h64 := pow6 hP
  have hAl := two_lt hP (ableS_lt P hs lf)
  have hOl := dif_le (ableS P hs lf) (2 ^ p)
  have eO : nI (ableS P hs lf) &&& (((1 : Int32) <<< (nI p &&& 31)) ^^^ (-1)) = nI (dif (ableS P hs lf) (2 ^ p)) := by rw [sh1 p (by omega), andn _ (by omega)]
  intro d
  induction d with
  | zero =>
    intro i n a kl kc kr giver got gave aims lumps h1 hn
    obtain ⟨n, rfl⟩ := succ_of hn
    exact ⟨kl, kc, kr, giver, got, gave, aims, lumps, fun ρ k => by rw [f_X7_odds_l73, sh1 P (by omega), if_pos (nI_le (by omega) (by omega))]; rfl⟩
  | succ d ih =>
    intro i n a kl kc kr giver got gave aims lumps h1 hn
    obtain ⟨n, rfl⟩ := succ_of hn
    have hi : i < 2 ^ P := by omega
    have hip := or_bit hP hi hp
    have e00 : ∀ (ρ : Type) (k : Int32 → Int32 → Int32 → Int32 → (Nat → Int32) → (Nat → Int32) → (Nat → Int32) → (Nat → Int32) → (Nat → Int32) → Option ρ), f_X7_odds_l73 (nI p) (nI x) (nI P) (nI w) has wc wanted weight (nI (ableS P hs lf)) k N (n + 1) (nI a) (nI i) kl kc kr giver got gave aims lumps = _ := fun ρ k => by rw [f_X7_odds_l73, sh1 P (by omega), if_neg (nI_ge hi (by omega)), eO, isWithin_e N (by omega), if10, if00, nI_1, sh1 p (by omega), or_nI]
    simp only [e00]
    rw [sumF, ← Nat.add_assoc]
    unfold FX
    by_cases hd : dif i (dif (ableS P hs lf) (2 ^ p)) = 0
    · simp only [if_pos hd]
      rw [decide_eq_true hd, Bool.true_and]
      have h6 : ∀ q, q < P → (i ||| 2 ^ p).testBit q = true → hs q ≠ 6 := able_6 (fun q hq => by
        rw [Nat.testBit_or, Nat.testBit_two_pow, Bool.or_eq_true_iff] at hq
        rcases hq with hq | hq
        · exact sub_dif _ _ q (dif_0_sub hd q hq)
        · rw [decide_eq_true_eq] at hq; subst hq; exact hA)
      obtain ⟨x1, x2, x3, x4, x5, e1, e2, e3⟩ := playX hN H hw b1 b2 hip h6 giver got gave aims lumps
      have F := NtF (WL := WL) (WT := WT) (w := w) hP (fun p hp => ⟨(b1 p hp).1, (b1 p hp).2.1⟩) b2 hip h6
      have hr := F.r64
      simp only [e1, holds_n N (show (Nt P WL WT hs w (i ||| 2 ^ p)).2.1 < 2 ^ 31 by omega) (show p < 31 by omega), b01]
      have hpc := popc_dif (dif_0_sub hd) 8
      have hpO := popc_le (dif (ableS P hs lf) (2 ^ p)) 8
      cases hb : (Nt P WL WT hs w (i ||| 2 ^ p)).2.1.testBit p with
      | false =>
        simp only [Bool.false_eq_true, if_false]
        exact ih (i + 1) n a 0 _ _ x1 x2 x3 x4 x5 (by omega) (by omega)
      | true =>
        simp only [if_true]
        have e5 : (10 : Int32) - nI x = nI (10 - x) := pk_sub (a := 10) hx
        simp only [bc_e N (show i < 256 by omega), bc_e N (show dif (ableS P hs lf) (2 ^ p) < 256 by omega), power_e hN (show popc i 8 ≤ 8 from popc_le _ _), e5, pk_sub (show popc i 8 ≤ popc (dif (ableS P hs lf) (2 ^ p)) 8 by omega), power_e hN (show popc (dif (ableS P hs lf) (2 ^ p)) 8 - popc i 8 ≤ 8 by omega), pk_mul, nI_add]
        exact ih (i + 1) n _ 0 _ _ x1 x2 x3 x4 x5 (by omega) (by omega)
    · simp only [if_neg hd]
      rw [decide_eq_false hd, Bool.false_and]
      exact ih (i + 1) n a kl kc kr giver got gave aims lumps (by omega) (by omega)
theorem lower_l55 {ρ : Type} (N : Nat) {P A p : Nat} (hP : P ≤ 6) (hA : A < 64) (hp : p < P) (k : Int32 → Option ρ) : ∀ (d i n : Nat), i + d = P → d < n → f_X8_odds_l55 (nI p) (nI P) (nI A) k N n (nI (10 ^ popc (dif A (2 ^ p)) i)) (nI i) = k (nI (10 ^ popc (dif A (2 ^ p)) P)) := by
  intro d
  induction d with
  | zero =>
    intro i n h1 hn
    obtain ⟨n, rfl⟩ := succ_of hn
    obtain rfl : i = P := by omega
    rw [f_X8_odds_l55, if_pos (nI_le (Nat.le_refl _) (by omega))]
  | succ d ih =>
    intro i n h1 hn
    obtain ⟨n, rfl⟩ := succ_of hn
    have key := ih (i + 1) n (by omega) (by omega)
    rw [popc, dif_bit, Nat.testBit_two_pow] at key
    rw [f_X8_odds_l55, if_neg (nI_ge (by omega) (by omega)), has_n N (by omega) (by omega), b01]
    unfold f_X8_odds_j87 f_X8_odds_j88
    rw [nI_1, Int32.mul_one]
    by_cases e : i = p
    · subst e
      rw [if_pos rfl]
      rw [decide_eq_true rfl, Bool.not_true, Bool.and_false] at key
      exact key
    · rw [if_neg (fun q => e (inj_n (by omega) (by omega) q))]
      rw [decide_eq_false (fun q => e q.symm), Bool.not_false, Bool.and_true] at key
      cases hb : A.testBit i with
      | false => rw [hb] at key; exact key
      | true =>
        rw [hb, if_pos rfl, Nat.pow_succ] at key
        rw [if_pos rfl, show nI (10 ^ popc (dif A (2 ^ p)) i) * 10 = nI (10 ^ popc (dif A (2 ^ p)) i * 10) from pk_mul _ 10]
        exact key
theorem prod_l134 {ρ : Type} (N : Nat) {P A p x y : Nat} (hP : P ≤ 6) (hA : A < 64) (hp : p < P) (hx : x ≤ 10) (hy : y < 2 ^ P) (hyA : dif y A = 0) (k : Int32 → Option ρ) : ∀ (d i n : Nat), i + d = P → d < n → f_X8_odds_l134 (nI p) (nI x) (nI P) (nI A) (nI y) k N n (nI (x ^ popc (dif y (2 ^ p)) i * (10 - x) ^ (popc (dif A (2 ^ p)) i - popc (dif y (2 ^ p)) i))) (nI i) = k (nI (x ^ popc (dif y (2 ^ p)) P * (10 - x) ^ (popc (dif A (2 ^ p)) P - popc (dif y (2 ^ p)) P))) := by
  have hy64 := two_lt hP hy
  have e5 : (10 : Int32) - nI x = nI (10 - x) := pk_sub (a := 10) hx
  have hsub : sub (dif y (2 ^ p)) (dif A (2 ^ p)) := fun j hj => by
    rw [dif_bit, Bool.and_eq_true_iff] at *
    exact ⟨dif_0_sub hyA j hj.1, hj.2⟩
  intro d
  induction d with
  | zero =>
    intro i n h1 hn
    obtain ⟨n, rfl⟩ := succ_of hn
    obtain rfl : i = P := by omega
    rw [f_X8_odds_l134, if_pos (nI_le (Nat.le_refl _) (by omega))]
  | succ d ih =>
    intro i n h1 hn
    obtain ⟨n, rfl⟩ := succ_of hn
    have hle := popc_dif hsub i
    have key := ih (i + 1) n (by omega) (by omega)
    rw [popc, popc, dif_bit, dif_bit, Nat.testBit_two_pow] at key
    rw [f_X8_odds_l134, if_neg (nI_ge (by omega) (by omega)), has_n N (by omega) (by omega), b01, has_n N (by omega) (by omega), b01, e5]
    unfold f_X8_odds_j161 f_X8_odds_j183
    rw [nI_1, Int32.mul_one, pk_mul, pk_mul]
    by_cases e : i = p
    · subst e
      rw [if_pos rfl]
      rw [decide_eq_true rfl, Bool.not_true, Bool.and_false, Bool.and_false] at key
      exact key
    · rw [if_neg (fun q => e (inj_n (by omega) (by omega) q))]
      rw [decide_eq_false (fun q => e q.symm), Bool.not_false, Bool.and_true, Bool.and_true] at key
      cases hb : A.testBit i with
      | false =>
        have hyb : y.testBit i = false := by
          cases e2 : y.testBit i
          · rfl
          · have := dif_0_sub hyA i e2; rw [hb] at this; exact absurd this (by decide)
        rw [hb, hyb] at key; exact key
      | true =>
        rw [hb] at key
        cases hyb : y.testBit i with
        | true =>
          rw [hyb, if_pos rfl, Nat.pow_succ, Nat.add_sub_add_right] at key
          rw [if_pos rfl, if_pos rfl, Nat.mul_right_comm]
          exact key
        | false =>
          rw [hyb, if_pos rfl, if_neg (by decide), Nat.add_zero, show popc (dif A (2 ^ p)) i + 1 - popc (dif y (2 ^ p)) i = (popc (dif A (2 ^ p)) i - popc (dif y (2 ^ p)) i) + 1 by omega, Nat.pow_succ, ← Nat.mul_assoc] at key
          exact key
theorem oddsM_l100 {N : Nat} (hN : 200000 ≤ N) {P c : Nat} {WL : Nat → List Nat} {WT hs lf bt : Nat → Nat} {wm ws weight : Nat → Int32} (H : HM P WL WT wm ws weight) (hc : c ≤ 8) {w : Nat} (hw : w ≤ 2) {has st : Nat → Int32} (b1 : ∀ p, p < P → hs p ≤ 6 ∧ (hs p ≠ 6 → hs p < P) ∧ has p = (if hs p = 6 then -9 else nI (hs p)) ∧ st p = nI (hs p)) (b2 : ∀ p, p < P → ∀ q, q < P → hs p = hs q → hs p ≠ 6 → p = q) (h13 : st 13 = nI c) (hbt : ∀ k, k < c → st (14 + k) = nI (bt k)) (h24 : st 24 = nI w) {p x : Nat} (hp : p < P) (hx : x ≤ 10) : ∀ (d i n a : Nat) (kr kl : Int32) (now gave at_ : Nat → Int32), i + d = 2 ^ P → d < n → ∃ kr' kl' now' gave' at', ∀ (ρ : Type) (k : Int32 → Int32 → Int32 → (Nat → Int32) → (Nat → Int32) → (Nat → Int32) → Option ρ), f_X8_odds_l100 (nI p) (nI x) (nI P) st wm ws weight (nI (ableS P hs lf)) k N n (nI a) (nI i) kr kl now gave at_ = k (nI (a + sumF (FM P WL WT hs w p (ableS P hs lf) (dif (ableS P hs lf) (2 ^ p)) x) d i)) kr' kl' now' gave' at' := by
  have hP := H.hP
  have h64 := pow6 hP
  have h2P := Nat.two_pow_pos P
  have hAl := two_lt hP (ableS_lt P hs lf)
  have hOl := dif_le (ableS P hs lf) (2 ^ p)
  intro d
  induction d with
  | zero =>
    intro i n a kr kl now gave at_ h1 hn
    obtain ⟨n, rfl⟩ := succ_of hn
    exact ⟨kr, kl, now, gave, at_, fun ρ k => by rw [f_X8_odds_l100, all_M N hP, if_pos (nI_lt (by omega) (by omega))]; rfl⟩
  | succ d ih =>
    intro i n a kr kl now gave at_ h1 hn
    obtain ⟨n, rfl⟩ := succ_of hn
    have hi : i < 2 ^ P := by omega
    have e00 : ∀ (ρ : Type) (k : Int32 → Int32 → Int32 → (Nat → Int32) → (Nat → Int32) → (Nat → Int32) → Option ρ), f_X8_odds_l100 (nI p) (nI x) (nI P) st wm ws weight (nI (ableS P hs lf)) k N (n + 1) (nI a) (nI i) kr kl now gave at_ = _ := fun ρ k => by rw [f_X8_odds_l100, all_M N hP, if_neg (nI_nlt (by omega) (by omega)), within_if (by omega), has_n N (by omega) (by omega), b01, nI_1]
    simp only [e00]
    rw [sumF, ← Nat.add_assoc]
    unfold FM
    by_cases hd : dif i (ableS P hs lf) = 0
    · simp only [if_pos hd]
      rw [decide_eq_true hd, Bool.true_and]
      cases hbp : i.testBit p with
      | false =>
        rw [Bool.false_and]
        simp only [Bool.false_eq_true, if_false]
        exact ih (i + 1) n a kr kl now gave at_ (by omega) (by omega)
      | true =>
        rw [Bool.true_and]
        simp only [if_true]
        have h6 := able_6 (dif_0_sub hd)
        obtain ⟨y1, y2, y3, f1, f2⟩ := goesM hN (bt := bt) H hc hw b1 b2 h13 hbt hi h6 now gave at_
        have F := NtF (WL := WL) (WT := WT) (w := w) hP (fun p hp => ⟨(b1 p hp).1, (b1 p hp).2.1⟩) b2 hi h6
        have hr := F.r64
        have ep : ∀ (ρ : Type) (k : Int32 → Option ρ), f_X8_odds_l134 (nI p) (nI x) (nI P) (nI (ableS P hs lf)) (nI i) k N N 1 0 = k (nI (term (dif (ableS P hs lf) (2 ^ p)) x (dif i (2 ^ p)))) := fun ρ k => by
          have h := prod_l134 N hP hAl hp hx hi hd k P 0 N (by omega) (by omega)
          unfold term
          rw [popc_P (Nat.lt_of_le_of_lt (dif_le i (2 ^ p)) hi) 8 (by omega), popc_P (Nat.lt_of_le_of_lt hOl (ableS_lt P hs lf)) 8 (by omega)]
          refine Eq.trans ?_ h
          rw [popc, popc, Nat.sub_zero, Nat.pow_zero, Nat.pow_zero]; rfl
        simp only [ep]
        unfold f_X8_odds_e192 f_X8_odds_j228
        simp only [asIt_e hN, i24, ck_t, c24, h24, f1, has_n N (show (Nt P WL WT hs w i).2.1 < 2 ^ 31 by omega) (show p < 31 by omega), b01, nI_1, nI_add]
        cases hb : (Nt P WL WT hs w i).2.1.testBit p with
        | false =>
          simp only [Bool.false_eq_true, if_false, Int32.add_zero]
          exact ih (i + 1) n a _ _ y1 y2 y3 (by omega) (by omega)
        | true =>
          simp only [if_true]
          exact ih (i + 1) n _ _ _ y1 y2 y3 (by omega) (by omega)
    · simp only [if_neg hd]
      rw [decide_eq_false hd, Bool.false_and]
      exact ih (i + 1) n a kr kl now gave at_ (by omega) (by omega)
theorem lowT_01 : ∀ s, s ≤ 1 → lowT 0 1 (nI s) = nI s := by decide +kernel
set_option maxHeartbeats 2000000 in
theorem st_odds {N : Nat} (hN : 200000 ≤ N) : St_odds N Rel := by
  intro x_told x_marks xs_length xs_place xs_tokenPlace xs_token xs_value xs_lawTold xsd_size xsd_law xsd_weight xsd_nights xsd_wanted xsd_wantCount xsd_wantBits xs_letters xp_size xp_law xp_weight xp_nights xp_wanted xp_wantCount xp_wantBits xh_bitCount xh_given xh_made xh_gone xh_law xh_has xh_left xh_bits xy_next xy_known xyr_has xyr_left xyr_bits xyr_bitCount xyr_given xyr_made xyr_gone xyr_law x_kept xk_left xk_lumpCount xk_ringed xk_gave xk_giver xk_aims xk_got xk_lumps xg_hours xg_best xu_sums xu_hours x_toldSet x_toldWho x_toldHour xm_has xm_left xm_bits xm_bitCount xm_given xm_made xm_gone xm_law m_people m_known m_toldMany m_trace m_texted m_cursor m_start m_token m_number m_isWrong m_items m_saidPeople m_saidLaw m_ringed m_lumps m_weight m_wants m_wantsMany m_st m_was m_images m_isKept m_told m_text m_saidWeight m_saidNights m_saidWants m_saidMany m_now m_gave m_at m_way m_bestWay m_made a1 a2 a3 hR
  obtain ⟨P, WL, WT, ht, hp, ha, hy, hi, ho, hm, hg⟩ := hR
  have hp' := hp
  have ha' := ha
  obtain ⟨hP, rfl, rfl, hw, hl⟩ := hp
  obtain ⟨hs, lf, bt, g, c, n, w, b1, b2, b3, b4, ⟨g1, rfl, g3, g4⟩, ⟨c1, c2, c3, c4⟩, b7, ⟨n1, n2, n3⟩, ⟨w1, rfl, w3⟩⟩ := ha
  have h2P := Nat.two_pow_pos P
  have h64 := pow6 hP
  unfold f_X7_odds f_X8_odds
  simp only [in_w]
  rcases pk_ix a1 (n := P) (by omega) with h | h | ⟨p, hp1, rfl⟩
  · rw [knows_no N (Or.inl h), isPerson_no N hP (Or.inl h), if00, if00]; exact ⟨_, _, _, _, _, _, _, _, _, _, _, _, _, _, rfl, rfl, P, WL, WT, ht, hp', ha', hy, hi, ho, hm, hg⟩
  · rw [knows_no N (Or.inr h), isPerson_no N hP (Or.inr h), if00, if00]; exact ⟨_, _, _, _, _, _, _, _, _, _, _, _, _, _, rfl, rfl, P, WL, WT, ht, hp', ha', hy, hi, ho, hm, hg⟩
  rw [knows_yes N (by omega) hp1, isPerson_yes N hP hp1, if10, if10]
  rcases win a2 (b := 10) (n := 10) rfl (by decide) with hw2 | ⟨x, hx, rfl, q1, q2⟩
  · rw [within_no N hw2, within_no N hw2, if00, if00]
    exact ⟨_, _, _, _, _, _, _, _, _, _, _, _, _, _, rfl, rfl, P, WL, WT, ht, hp', ha', hy, hi, ho, hm, hg⟩
  rw [within_yes N q1 q2, within_yes N q1 q2, if10, if10]
  rcases win a3 (b := 1) (n := 1) rfl (by decide) with hw2 | ⟨s, hs1, rfl, q3, q4⟩
  · rw [within_no N hw2, within_no N hw2, if00, if00]
    exact ⟨_, _, _, _, _, _, _, _, _, _, _, _, _, _, rfl, rfl, P, WL, WT, ht, hp', ha', hy, hi, ho, hm, hg⟩
  have hAl := two_lt hP (ableS_lt P hs lf)
  have hOl := dif_le (ableS P hs lf) (2 ^ p)
  rw [within_yes N q3 q4, within_yes N q3 q4, if10, if10, ableX hN hP (fun q hq => ⟨(b1 q hq).1, (b1 q hq).2.2.1⟩) (fun q hq => ⟨(b4 q hq).1, (b4 q hq).2.1⟩) (fun q q1 q2 => (b3 q q1 q2).1), ableM hN hP (fun q hq => ⟨(b1 q hq).1, (b1 q hq).2.2.2⟩) (fun q hq => ⟨(b4 q hq).1, (b4 q hq).2.2⟩), holds_n N (by omega) (by omega), has_n N (by omega) (by omega), b01, b01]
  cases hA : (ableS P hs lf).testBit p with
  | false =>
    simp only [Bool.false_eq_true, if_false]
    rw [show (0 : Int32) = nI 0 from rfl, show (1 : Int32) = nI 1 from rfl, part_e hN (by decide) (by decide) (by decide), lowT_01 s hs1]
    exact ⟨_, _, _, _, _, _, _, _, _, _, _, _, _, _, rfl, rfl, P, WL, WT, ht, hp', ha', hy, hi, ho, hm, hg⟩
  | true =>
    simp only [if_true]
    obtain ⟨x1, x2, x3, x4, x5, x6, x7, x8, ex⟩ := oddsX_l73 hN (lf := lf) (Rp_HX hp') w1 b1 b2 hp1 hx hA (2 ^ P) 0 N 0 xk_left xk_lumpCount xk_ringed xk_giver xk_got xk_gave xk_aims xk_lumps (by omega) (by omega)
    obtain ⟨y1, y2, y3, y4, y5, ey⟩ := oddsM_l100 hN (lf := lf) (bt := bt) (Rp_HM hp') c1 w1 b1 b2 c3 (fun k hk => (c4 k hk).2.2.2) w3 hp1 hx (2 ^ P) 0 N 0 m_ringed m_lumps m_now m_gave m_at (by omega) (by omega)
    rw [← odds_eq WL WT hs w x hp1 hA] at ey
    rw [Nat.zero_add] at ex ey
    have hO8 : popc (dif (ableS P hs lf) (2 ^ p)) 8 ≤ 6 := by rw [popc_68 (by omega)]; exact popc_le _ _
    have hlow : 0 < 10 ^ popc (dif (ableS P hs lf) (2 ^ p)) 8 ∧ 10 ^ popc (dif (ableS P hs lf) (2 ^ p)) 8 < 2 ^ 31 := ⟨Nat.pow_pos (by decide), Nat.lt_of_le_of_lt (Nat.pow_le_pow_right (by decide) hO8) (by decide)⟩
    have hsum : sumF (FX P WL WT hs w p (dif (ableS P hs lf) (2 ^ p)) x) (2 ^ P) 0 < 2 ^ 31 := by
      have := sumF_le (FX_le (P := P) (WL := WL) (WT := WT) (hs := hs) (w := w) (p := p) (O := dif (ableS P hs lf) (2 ^ p)) (by omega) hx) (2 ^ P) 0
      omega
    have el : ∀ (ρ : Type) (k : Int32 → Option ρ), f_X8_odds_l55 (nI p) (nI P) (nI (ableS P hs lf)) k N N 1 0 = k (nI (10 ^ popc (dif (ableS P hs lf) (2 ^ p)) 8)) := fun ρ k => by
      have h := lower_l55 N hP hAl hp1 k P 0 N (by omega) (by omega)
      rw [popc_P (Nat.lt_of_le_of_lt hOl (ableS_lt P hs lf)) 8 (by omega)]
      exact h
    have ex' : ∀ (ρ : Type) (k : Int32 → Int32 → Int32 → Int32 → (Nat → Int32) → (Nat → Int32) → (Nat → Int32) → (Nat → Int32) → (Nat → Int32) → Option ρ), f_X7_odds_l73 (nI p) (nI x) (nI P) (nI w) xh_has xp_wantCount xp_wanted xp_weight (nI (ableS P hs lf)) k N N 0 0 xk_left xk_lumpCount xk_ringed xk_giver xk_got xk_gave xk_aims xk_lumps = k (nI (sumF (FX P WL WT hs w p (dif (ableS P hs lf) (2 ^ p)) x) (2 ^ P) 0)) x1 x2 x3 x4 x5 x6 x7 x8 := ex
    have ey' : ∀ (ρ : Type) (k : Int32 → Int32 → Int32 → (Nat → Int32) → (Nat → Int32) → (Nat → Int32) → Option ρ), f_X8_odds_l100 (nI p) (nI x) (nI P) m_st m_wantsMany m_wants m_weight (nI (ableS P hs lf)) k N N 0 0 m_ringed m_lumps m_now m_gave m_at = k (nI (sumF (FX P WL WT hs w p (dif (ableS P hs lf) (2 ^ p)) x) (2 ^ P) 0)) y1 y2 y3 y4 y5 := ey
    rw [ex', el]
    unfold f_X7_odds_e185 f_X8_odds_e97
    rw [ey', sh1 p (by omega), andn _ (by omega), bc_e N (by omega), show (10 : Int32) = nI 10 from rfl, power_e hN (popc_le _ _), part_e hN hsum hlow.2 hlow.1]
    unfold f_X8_odds_e237
    rw [lowest_e hN hsum hlow.2 hlow.1]
    exact ⟨_, _, _, _, _, _, _, _, _, _, _, _, _, _, rfl, rfl, P, WL, WT, ht, hp', ha', hy, hi, ho, hm, hg⟩

