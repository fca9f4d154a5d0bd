/-! 40.could: the two ways to it -/
/-- what a person could get and wants -/
def Ws (P : Nat) (hs : Nat → Nat) (WL : Nat → List Nat) (p : Nat) : Nat := if p < P ∧ hs p ≠ 6 then bset (fun h => decide (h ∈ WL p)) P else 0
theorem Ws_lt {P : Nat} (hP : P ≤ 6) (hs : Nat → Nat) (WL : Nat → List Nat) (p : Nat) : Ws P hs WL p < 64 := by
  unfold Ws
  split
  · exact two_lt hP (bset_lt _ _)
  · decide
/-- the hours that people have -/
def hr (hs : Nat → Nat) : Nat → Nat
  | 0 => 0
  | i + 1 => hr hs i ||| (if hs i = 6 then 0 else 2 ^ hs i)
theorem hr_lt {P : Nat} {hs : Nat → Nat} (h : ∀ p, p < P → hs p ≤ 6) : ∀ i, i ≤ P → hr hs i < 2 ^ 6
  | 0, _ => by rw [hr]; decide
  | i + 1, hi => by
    rw [hr]
    refine Nat.or_lt_two_pow (hr_lt h i (by omega)) ?_
    have := h i (by omega)
    split
    · decide
    · exact Nat.pow_lt_pow_right (by decide) (by omega)
theorem hr_bit {P : Nat} {hs : Nat → Nat} (h : ∀ p, p < P → hs p ≠ 6 → hs p < P) {a : Nat} : ∀ i, i ≤ P → (hr hs i).testBit a = true → a < P
  | 0, _, q => by rw [hr, Nat.zero_testBit] at q; exact absurd q (by decide)
  | i + 1, hi, q => by
    rw [hr, Nat.testBit_or] at q
    cases e : (hr hs i).testBit a with
    | true => exact hr_bit h i (by omega) e
    | false =>
      rw [e, Bool.false_or] at q
      by_cases e6 : hs i = 6
      · rw [if_pos e6, Nat.zero_testBit] at q; exact absurd q (by decide)
      · rw [if_neg e6, Nat.testBit_two_pow, decide_eq_true_eq] at q
        have := h i (by omega) e6
        omega
theorem wishOf_e {ρ : Type} (N : Nat) {P : Nat} (hP : P ≤ 6) {hs : Nat → Nat} {WL : Nat → List Nat} {has wb : Nat → Int32} (h1 : ∀ p, p < P → hs p ≤ 6 ∧ has p = (if hs p = 6 then -9 else nI (hs p))) (h2 : ∀ p, p < P → wb p = nI (bset (fun h => decide (h ∈ WL p)) P)) {p : Nat} (hp : p < 6) (k : Int32 → Option ρ) : f_X5_wishOf N (nI P) has wb (nI p) k = k (nI (Ws P hs WL p)) := by
  unfold f_X5_wishOf Ws
  by_cases e : p < P
  · rw [knows_yes N (by omega) e, if_neg (by decide), ivi_n hp (by decide), ck_t, ck_t, cl (by omega), (h1 p e).2]
    by_cases e6 : hs p = 6
    · rw [if_pos e6, if_pos rfl, if_neg (fun q => q.2 e6)]; rfl
    · rw [if_neg e6, if_neg (ne9 (by have := (h1 p e).1; omega)), if_pos ⟨e, e6⟩, h2 p e]
  · rw [knows_no N (Or.inr (nI_le (by omega) (by omega))), if_pos rfl, if_neg (fun q => e q.1)]; rfl
theorem weigh_l7 {ρ : Type} (N : Nat) {P : Nat} (hP : P ≤ 6) {hs : Nat → Nat} {has : Nat → Int32} (h1 : ∀ p, p < P → hs p ≤ 6 ∧ (hs p ≠ 6 → hs p < P) ∧ has p = (if hs p = 6 then -9 else nI (hs p))) (h3 : ∀ p, P ≤ p → p < 6 → has p = -9) (k : Int32 → Option ρ) : ∀ (d i n : Nat), i + d = 6 → d < n → f_X5_weigh_l7 has (nI P) k N n (nI i) (nI (hr hs (min i P))) = k (nI (hr hs P)) := by
  intro d
  induction d with
  | zero =>
    intro i n h hn
    obtain ⟨n, rfl⟩ := succ_of hn
    obtain rfl : i = 6 := by omega
    rw [f_X5_weigh_l7, if_pos (show (6 : Int32) ≤ nI 6 by decide), Nat.min_eq_right hP]
  | succ d ih =>
    intro i n h hn
    obtain ⟨n, rfl⟩ := succ_of hn
    have key := ih (i + 1) n (by omega) (by omega)
    rw [f_X5_weigh_l7, if_neg (show ¬ (6 : Int32) ≤ nI i from nI_ge (b := 6) (by omega) (by decide)), ivi_n (show i < 6 by omega) (by decide), ck_t, cl (by omega), nI_1, ck_t]
    by_cases e : i < P
    · obtain ⟨a1, a2, a3⟩ := h1 i e
      rw [Nat.min_eq_left (by omega), hr] at key
      rw [a3, Nat.min_eq_left (by omega)]
      by_cases e6 : hs i = 6
      · rw [if_pos e6, Nat.or_zero] at key
        rw [if_pos e6, knows_no N (Or.inl (by decide)), if_pos rfl]
        exact key
      · rw [if_neg e6] at key
        rw [if_neg e6, knows_yes N (by omega) (a2 e6), if_neg (by decide), sh1 _ (by omega), or_nI]
        exact key
    · rw [Nat.min_eq_right (by omega)] at key
      rw [Nat.min_eq_right (by omega), h3 i (by omega) (by omega), knows_no N (Or.inl (by decide)), if_pos rfl]
      exact key
theorem max_nI {a c : Nat} (ha : a < 2 ^ 31) (hc : c < 2 ^ 31) : (if nI a < nI c then nI c else nI a) = nI (max a c) := by
  by_cases h : a < c
  · rw [if_pos (nI_lt h hc), Nat.max_eq_right (by omega)]
  · rw [if_neg (nI_nlt (by omega) ha), Nat.max_eq_left (by omega)]
theorem one_nI (a : Nat) : (1 : Int32) + nI a = nI (1 + a) := nI_add 1 a
theorem cutbit {f i : Nat} (hf : f < 64) (hi : i < 6) : nI f &&& (((1 : Int32) <<< (nI i &&& 31)) ^^^ (-1)) = nI (dif f (2 ^ i)) := by
  rw [sh1 i (by omega), andn _ (by omega)]
theorem bestFrom_l15 {ρ : Type} (N : Nat) {p w f : Nat} (hp : p < 6) (hw : w < 64) (hf : f < 64) {best : Nat → Nat → Int32} {b : Nat → Nat} (hb6 : ∀ f, b f ≤ 6) (hb : ∀ f', sub f' f → best (p + 1) f' = nI (b f')) (k : Int32 → Option ρ) : ∀ (d i n : Nat), i + d = 6 → d < n → f_X5_bestFrom_l15 (nI p) (nI (w &&& f)) (nI f) best k N n (nI (mxF w f b i)) (nI i) = k (nI (mxF w f b 6)) := by
  have hwf : w &&& f < 2 ^ 31 := Nat.lt_of_le_of_lt Nat.and_le_right (by omega)
  intro d
  induction d with
  | zero =>
    intro i n h hn
    obtain ⟨n, rfl⟩ := succ_of hn
    obtain rfl : i = 6 := by omega
    rw [f_X5_bestFrom_l15, if_pos (show (6 : Int32) ≤ nI 6 by decide)]
  | succ d ih =>
    intro i n h hn
    obtain ⟨n, rfl⟩ := succ_of hn
    have key := ih (i + 1) n (by omega) (by omega)
    have hd := dif_le f (2 ^ i)
    rw [mxF] at key
    rw [f_X5_bestFrom_l15, if_neg (show ¬ (6 : Int32) ≤ nI i from nI_ge (b := 6) (by omega) (by decide)), holds_n N hwf (by omega), b01, Nat.testBit_and, cutbit hf (by omega), nI_1, nI_1, ivi_n (show p + 1 < 7 by omega) (by decide), ck_t, ivi_n (show dif f (2 ^ i) < 64 by omega) (by decide), ck_t, cl (by omega), cl (by omega), hb _ (sub_dif f _), one_nI, max_nI (by have := mxF_le (w := w) (f := f) hb6 i; omega) (by have := hb6 (dif f (2 ^ i)); omega)]
    by_cases e : (w.testBit i && f.testBit i) = true
    · rw [if_pos e] at key ⊢; exact key
    · rw [if_neg e] at key ⊢; exact key
theorem bestFrom_e {ρ : Type} {N : Nat} (hN : 200000 ≤ N) {p w f : Nat} (hp : p < 6) (hw : w < 64) (hf : f < 64) {best : Nat → Nat → Int32} {b : Nat → Nat} (hb6 : ∀ f, b f ≤ 6) (hb : ∀ f', sub f' f → best (p + 1) f' = nI (b f')) (k : Int32 → Option ρ) : f_X5_bestFrom N best (nI p) (nI (w &&& f)) (nI f) k = k (nI (mxF w f b 6)) := by
  unfold f_X5_bestFrom
  have e := bestFrom_l15 N hp hw hf hb6 hb k 6 0 N (by omega) (by omega)
  rw [nI_1, ivi_n (show p + 1 < 7 by omega) (by decide), ck_t, ivi_n hf (by decide), ck_t, cl (by omega), cl (by omega), hb f (sub_self f)]
  exact e
theorem upg_s (g : Nat → Nat → Int32) (j : Nat) (f : Nat → Int32) : upg g j f j = f := if_pos rfl
theorem upg_n {g : Nat → Nat → Int32} {j i : Nat} {f : Nat → Int32} (h : i ≠ j) : upg g j f i = g i := if_neg h
theorem weigh_l66 {N : Nat} (hN : 200000 ≤ N) {p w H : Nat} (hp : p < 6) (hw : w < 64) (hH : H < 64) {b : Nat → Nat} (hb6 : ∀ f, b f ≤ 6) {best0 : Nat → Nat → Int32} (hb : ∀ f, f < 64 → sub f H → best0 (p + 1) f = nI (b f)) : ∀ (d i n : Nat) (best : Nat → Nat → Int32), i + d = 64 → d < n → (∀ q, q ≠ p → best q = best0 q) → (∀ f, f < i → sub f H → best p f = nI (mxF w f b 6)) → ∃ best', (∀ (ρ : Type) (k : (Nat → Nat → Int32) → Option ρ), f_X5_weigh_l66 (nI H) (nI p) (nI w) k N n (nI i) best = k best') ∧ (∀ q, q ≠ p → best' q = best0 q) ∧ (∀ f, f < 64 → sub f H → best' p f = nI (mxF w f b 6)) := by
  intro d
  induction d with
  | zero =>
    intro i n best h hn g1 g2
    obtain ⟨n, rfl⟩ := succ_of hn
    obtain rfl : i = 64 := by omega
    exact ⟨best, fun ρ k => by rw [f_X5_weigh_l66, if_pos (show (64 : Int32) ≤ nI 64 by decide)], g1, g2⟩
  | succ d ih =>
    intro i n best h hn g1 g2
    obtain ⟨n, rfl⟩ := succ_of hn
    by_cases e : dif i H = 0
    · have hs := dif_0_sub e
      obtain ⟨best', e1, e2⟩ := ih (i + 1) n (upg best p (upd (best p) i (nI (mxF w i b 6)))) (by omega) (by omega) (fun q hq => by rw [upg_n hq]; exact g1 q hq) (fun f hf hs' => by
        rw [upg_s]
        by_cases q : f = i
        · subst q; rw [upd_s]
        · rw [upd_n q]; exact g2 f (by omega) hs')
      refine ⟨best', fun ρ k => ?_, e2⟩
      rw [f_X5_weigh_l66, if_neg (show ¬ (64 : Int32) ≤ nI i from nI_ge (b := 64) (by omega) (by decide)), isWithin_e N (by omega), if_pos e, if_neg (by decide), ivi_n (show p < 7 by omega) (by decide), ck_t, and_nI, bestFrom_e hN hp hw (show i < 64 by omega) hb6 (fun f' hf' => by rw [g1 (p + 1) (by omega)]; exact hb f' (by have := sub_le hf'; omega) (fun j hj => hs j (hf' j hj))), ivi_n (show i < 64 by omega) (by decide), ck_t, cl (by omega), cl (by omega), nI_1]
      exact e1 ρ k
    · obtain ⟨best', e1, e2⟩ := ih (i + 1) n best (by omega) (by omega) g1 (fun f hf hs' => by
        by_cases q : f = i
        · subst q; exact absurd (sub_dif0 hs') e
        · exact g2 f (by omega) hs')
      refine ⟨best', fun ρ k => ?_, e2⟩
      rw [f_X5_weigh_l66, if_neg (show ¬ (64 : Int32) ≤ nI i from nI_ge (b := 64) (by omega) (by decide)), isWithin_e N (by omega), if_neg e, if_pos rfl, nI_1]
      exact e1 ρ k
theorem less1 (c : Nat) : nI c + (-1) = nI c - 1 := (Int32.sub_eq_add_neg _ _).symm
theorem bs_row {P : Nat} {hs : Nat → Nat} {WL : Nat → List Nat} (c f : Nat) : mxF (Ws P hs WL c) f (bs (Ws P hs WL) P (P - (c + 1))) 6 = bs (Ws P hs WL) P (P - c) f := by
  by_cases e : c < P
  · obtain ⟨d, hd⟩ : ∃ d, P - c = d + 1 := ⟨P - c - 1, by omega⟩
    rw [hd, bs, show P - (c + 1) = d by omega, show P - 1 - d = c by omega]
  · rw [show P - c = 0 by omega, show P - (c + 1) = 0 by omega]
    have : Ws P hs WL c = 0 := if_neg (fun q => e q.1)
    rw [this, mxF_0]
theorem weigh_l51 {N : Nat} (hN : 200000 ≤ N) {P H : Nat} (hP : P ≤ 6) (hH : H < 64) {hs : Nat → Nat} {WL : Nat → List Nat} {has wb : Nat → Int32} (h1 : ∀ p, p < P → hs p ≤ 6 ∧ has p = (if hs p = 6 then -9 else nI (hs p))) (h2 : ∀ p, p < P → wb p = nI (bset (fun h => decide (h ∈ WL p)) P)) : ∀ (c n : Nat) (best : Nat → Nat → Int32), c ≤ 6 → c < n → (∀ q f, c ≤ q → q ≤ 6 → f < 64 → sub f H → best q f = nI (bs (Ws P hs WL) P (P - q) f)) → ∃ best', (∀ (ρ : Type) (k : Int32 → (Nat → Nat → Int32) → Option ρ), f_X5_weigh_l51 has (nI P) wb (nI H) k N n (nI c - 1) best = k (nI H) best') ∧ (∀ q f, q ≤ 6 → f < 64 → sub f H → best' q f = nI (bs (Ws P hs WL) P (P - q) f)) ∧ best' 6 = best 6 := by
  intro c
  induction c with
  | zero =>
    intro n best _ hn g
    obtain ⟨n, rfl⟩ := succ_of hn
    exact ⟨best, fun ρ k => by rw [f_X5_weigh_l51, if_pos (by decide)], fun q f hq => g q f (by omega) hq, rfl⟩
  | succ c ih =>
    intro n best hc hn g
    obtain ⟨n, rfl⟩ := succ_of hn
    obtain ⟨best1, e1, e2, e3⟩ := weigh_l66 hN (p := c) (w := Ws P hs WL c) (by omega) (Ws_lt hP hs WL c) hH (b := bs (Ws P hs WL) P (P - (c + 1))) (fun f => by have := bs_le (Ws P hs WL) P (P - (c + 1)) f; omega) (best0 := best) (fun f hf hs' => g (c + 1) f (by omega) (by omega) hf hs') 64 0 N best (by omega) (by omega) (fun q _ => rfl) (fun f hf => absurd hf (by omega))
    obtain ⟨best2, f1, f2, f3⟩ := ih n best1 (by omega) (by omega) (fun q f hq hq6 hf hs' => by
      by_cases e : q = c
      · subst e; rw [e3 f hf hs', bs_row]
      · rw [e2 q e]; exact g q f (by omega) hq6 hf hs')
    refine ⟨best2, fun ρ k => ?_, f2, by rw [f3, e2 6 (by omega)]⟩
    rw [f_X5_weigh_l51, nI_pred, if_neg (nI_pos (by omega)), wishOf_e N hP h1 h2 (by omega)]
    refine (e1 ρ _).trans ?_
    unfold f_X5_weigh_e112
    rw [less1]
    exact f1 ρ k
theorem weigh_e {N : Nat} (hN : 200000 ≤ N) {P : Nat} (hP : P ≤ 6) {hs : Nat → Nat} {WL : Nat → List Nat} {has wb : Nat → Int32} (h1 : ∀ p, p < P → hs p ≤ 6 ∧ (hs p ≠ 6 → hs p < P) ∧ has p = (if hs p = 6 then -9 else nI (hs p))) (h2 : ∀ p, p < P → wb p = nI (bset (fun h => decide (h ∈ WL p)) P)) (h3 : ∀ p, P ≤ p → p < 6 → has p = -9) {best : Nat → Nat → Int32} (hg : Rg best) : ∃ best', (∀ (ρ : Type) (k : Int32 → (Nat → Nat → Int32) → Option ρ), f_X5_weigh N has (nI P) wb best k = k (nI (hr hs P)) best') ∧ (∀ q f, q ≤ 6 → f < 64 → sub f (hr hs P) → best' q f = nI (bs (Ws P hs WL) P (P - q) f)) ∧ Rg best' := by
  have hH := hr_lt (fun p hp => (h1 p hp).1) P (Nat.le_refl P)
  obtain ⟨best', e1, e2, e3⟩ := weigh_l51 hN hP hH (WL := WL) (fun p hp => ⟨(h1 p hp).1, (h1 p hp).2.2⟩) h2 6 N best (by omega) (by omega) (fun q f hq hq6 hf _ => by
    obtain rfl : q = 6 := by omega
    rw [hg f hf, show P - 6 = 0 by omega]; rfl)
  refine ⟨best', fun ρ k => ?_, e2, fun f hf => by rw [e3]; exact hg f hf⟩
  unfold f_X5_weigh
  have := weigh_l7 N hP h1 h3 (fun z => f_X5_weigh_e49 best has (nI P) wb k N z) 6 0 N (by omega) (by omega)
  rw [Nat.min_eq_left (Nat.zero_le _)] at this
  refine Eq.trans this ?_
  exact e1 ρ k
theorem firstFor_l3 {ρ : Type} (N : Nat) {P p f H : Nat} (hP : P ≤ 6) (hp : p < P) (hf : f < 64) (hfH : sub f H) {W : Nat → Nat} (hW : W p < 64) {best : Nat → Nat → Int32} (hb : ∀ q f, q ≤ 6 → f < 64 → sub f H → best q f = nI (bs W P (P - q) f)) (k : Int32 → Option ρ) : ∀ (d i n : Nat), i + d = 6 → d < n → (∀ q, q < i → chP W P (P - 1 - p) f q = false) → f_X5_firstFor_l3 (nI p) (nI (W p &&& f)) (nI f) best k N n (nI i) = k (enc9 (chs W P (P - 1 - p) f)) := by
  have hwf : W p &&& f < 2 ^ 31 := Nat.lt_of_le_of_lt Nat.and_le_right (by omega)
  have hpp : P - 1 - (P - 1 - p) = p := by omega
  intro d
  induction d with
  | zero =>
    intro i n h hn hq
    obtain ⟨n, rfl⟩ := succ_of hn
    obtain rfl : i = 6 := by omega
    rw [f_X5_firstFor_l3, if_pos (show (6 : Int32) ≤ nI 6 by decide)]
    unfold chs
    rw [lowest_none hq]; rfl
  | succ d ih =>
    intro i n h hn hq
    obtain ⟨n, rfl⟩ := succ_of hn
    have hd := dif_le f (2 ^ i)
    have b1 := bs_le W P (P - (p + 1)) (dif f (2 ^ i))
    have b2 := bs_le W P (P - p) f
    have hgo : chP W P (P - 1 - p) f i = false → f_X5_firstFor_l3 (nI p) (nI (W p &&& f)) (nI f) best k N n (nI (i + 1)) = k (enc9 (chs W P (P - 1 - p) f)) := fun hc => ih (i + 1) n (by omega) (by omega) (fun q h4 => by
      by_cases e : q = i
      · subst e; exact hc
      · exact hq q (by omega))
    rw [f_X5_firstFor_l3, if_neg (show ¬ (6 : Int32) ≤ nI i from nI_ge (b := 6) (by omega) (by decide)), holds_n N hwf (by omega), b01, Nat.testBit_and, cutbit hf (by omega), nI_1, nI_1, ivi_n (show p + 1 < 7 by omega) (by decide), ck_t, ivi_n (show dif f (2 ^ i) < 64 by omega) (by decide), ck_t, ivi_n (show p < 7 by omega) (by decide), ck_t, ivi_n hf (by decide), ck_t, cl (by omega), cl (by omega), cl (by omega), cl (by omega), hb (p + 1) _ (by omega) (by omega) (fun j hj => hfH j (sub_dif f _ j hj)), hb p f (by omega) hf hfH, one_nI]
    have hch : chP W P (P - 1 - p) f i = ((W p).testBit i && f.testBit i && decide (1 + bs W P (P - (p + 1)) (dif f (2 ^ i)) = bs W P (P - p) f)) := by
      unfold chP
      rw [hpp, show P - 1 - p + 1 = P - p by omega, show P - 1 - p = P - (p + 1) by omega]
    by_cases e : ((W p).testBit i && f.testBit i) = true
    · rw [if_pos e]
      rw [e, Bool.true_and] at hch
      by_cases q : 1 + bs W P (P - (p + 1)) (dif f (2 ^ i)) = bs W P (P - p) f
      · rw [if_pos (by rw [q])]
        rw [decide_eq_true q] at hch
        unfold chs
        rw [lowest_eq hch (by omega) hq]
        unfold enc9
        rw [if_neg (by omega)]
      · rw [if_neg (fun q' => q (inj_n (by omega) (by omega) q'))]
        rw [decide_eq_false q] at hch
        exact hgo hch
    · rw [if_neg e]
      rw [Bool.not_eq_true] at e
      rw [e, Bool.false_and] at hch
      exact hgo hch
theorem hourOf_l13 {ρ : Type} {N : Nat} (hN : 200000 ≤ N) {P p H : Nat} (hP : P ≤ 6) (hp : p < P) (hH : H < 64) {hs : Nat → Nat} {WL : Nat → List Nat} {has wb : Nat → Int32} (h1 : ∀ p, p < P → hs p ≤ 6 ∧ has p = (if hs p = 6 then -9 else nI (hs p))) (h2 : ∀ p, p < P → wb p = nI (bset (fun h => decide (h ∈ WL p)) P)) {best : Nat → Nat → Int32} (hb : ∀ q f, q ≤ 6 → f < 64 → sub f H → best q f = nI (bs (Ws P hs WL) P (P - q) f)) (k : Int32 → Option ρ) : ∀ (d i n : Nat) (z : Int32), i + d = p + 1 → d < n → (i = p + 1 → z = enc9 (chs (Ws P hs WL) P (P - 1 - p) (fr (Ws P hs WL) P H p))) → f_X5_hourOf_l13 (nI p) (nI P) has wb best k N n (nI (fr (Ws P hs WL) P H i)) z (nI i) = k (enc9 (chs (Ws P hs WL) P (P - 1 - p) (fr (Ws P hs WL) P H p))) := by
  intro d
  induction d with
  | zero =>
    intro i n z h hn hz
    obtain ⟨n, rfl⟩ := succ_of hn
    rw [f_X5_hourOf_l13, if_pos (nI_lt (by omega) (by omega)), hz (by omega)]
  | succ d ih =>
    intro i n z h hn hz
    obtain ⟨n, rfl⟩ := succ_of hn
    have hf : fr (Ws P hs WL) P H i < 64 := by have := sub_le (fr_sub (W := Ws P hs WL) (P := P) (H := H) i); omega
    have hc := chs_le (Ws P hs WL) P (P - 1 - i) (fr (Ws P hs WL) P H i)
    have key := ih (i + 1) n (enc9 (chs (Ws P hs WL) P (P - 1 - i) (fr (Ws P hs WL) P H i))) (by omega) (by omega) (fun e => by rw [show i = p by omega])
    rw [f_X5_hourOf_l13, if_neg (nI_nlt (by omega) (by omega)), wishOf_e N hP h1 h2 (by omega), and_nI, f_X5_firstFor]
    have e := firstFor_l3 N hP (show i < P by omega) hf (fr_sub i) (Ws_lt hP hs WL i) hb (fun r34 => if r34 = (-9) then ((f_X5_hourOf_l13 (nI p) (nI P) has wb best k N n) (nI (fr (Ws P hs WL) P H i)) r34 (nI i + 1)) else ((f_X5_hourOf_l13 (nI p) (nI P) has wb best k N n) (nI (fr (Ws P hs WL) P H i) &&& (((1 : Int32) <<< (r34 &&& 31)) ^^^ (-1))) r34 (nI i + 1))) 6 0 N (by omega) (by omega) (fun q hq => absurd hq (by omega))
    refine Eq.trans e ?_
    rw [fr] at key
    generalize chs (Ws P hs WL) P (P - 1 - i) (fr (Ws P hs WL) P H i) = c at *
    unfold enc9 nxt at *
    rw [nI_1]
    by_cases e6 : c = 6
    · rw [if_pos e6] at key ⊢
      rw [if_pos e6] at key
      rw [if_pos rfl]
      exact key
    · rw [if_neg e6] at key ⊢
      rw [if_neg e6] at key
      rw [if_neg (ne9 (by omega)), cutbit hf (by omega)]
      exact key

