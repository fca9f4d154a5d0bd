/-! 39.share: how many could at most; the first of the best ways, in numbers -/
theorem low_sp (f : Nat → Bool) (P : Nat) : (lowest f P = P ∧ ∀ q, q < P → f q = false) ∨ (lowest f P < P ∧ f (lowest f P) = true ∧ ∀ q, q < lowest f P → f q = false) := by
  by_cases h : ∃ p, p < P ∧ f p = true
  · obtain ⟨p, ⟨h1, h2⟩, h3⟩ := pk_least (fun p => p < P ∧ f p = true) h
    have h4 : ∀ q, q < p → f q = false := fun q hq => by
      cases e : f q with
      | false => rfl
      | true => exact absurd ⟨by omega, e⟩ (h3 q hq)
    have e := lowest_eq h2 h1 h4
    rw [e]
    exact Or.inr ⟨h1, h2, h4⟩
  · have h4 : ∀ q, q < P → f q = false := fun q hq => by
      cases e : f q with
      | false => rfl
      | true => exact absurd ⟨q, hq, e⟩ h
    exact Or.inl ⟨lowest_none h4, h4⟩
def mxF (w f : Nat) (b : Nat → Nat) : Nat → Nat
  | 0 => b f
  | k + 1 => if w.testBit k && f.testBit k then max (mxF w f b k) (1 + b (dif f (2 ^ k))) else mxF w f b k
theorem mxF_ge0 (w f : Nat) (b : Nat → Nat) : ∀ k, b f ≤ mxF w f b k
  | 0 => Nat.le_refl _
  | k + 1 => by
    have := mxF_ge0 w f b k
    rw [mxF]
    split
    · exact Nat.le_trans this (Nat.le_max_left _ _)
    · exact this
theorem mxF_ge {w f : Nat} {b : Nat → Nat} {h : Nat} (h1 : w.testBit h = true) (h2 : f.testBit h = true) : ∀ k, h < k → 1 + b (dif f (2 ^ h)) ≤ mxF w f b k
  | 0, q => by omega
  | k + 1, q => by
    rw [mxF]
    by_cases e : h = k
    · subst e
      rw [h1, h2, if_pos (by decide)]
      exact Nat.le_max_right _ _
    · have := mxF_ge (b := b) h1 h2 k (by omega)
      split
      · exact Nat.le_trans this (Nat.le_max_left _ _)
      · exact this
theorem mxF_at {w f : Nat} {b : Nat → Nat} : ∀ k, mxF w f b k = b f ∨ ∃ h, h < k ∧ w.testBit h = true ∧ f.testBit h = true ∧ mxF w f b k = 1 + b (dif f (2 ^ h))
  | 0 => Or.inl rfl
  | k + 1 => by
    rw [mxF]
    have ih := mxF_at (w := w) (f := f) (b := b) k
    by_cases e : (w.testBit k && f.testBit k) = true
    · rw [if_pos e]
      rw [Bool.and_eq_true] at e
      by_cases q : mxF w f b k ≤ 1 + b (dif f (2 ^ k))
      · exact Or.inr ⟨k, by omega, e.1, e.2, Nat.max_eq_right q⟩
      · rw [Nat.max_eq_left (by omega)]
        rcases ih with ih | ⟨h, a1, a2, a3, a4⟩
        · exact Or.inl ih
        · exact Or.inr ⟨h, by omega, a2, a3, a4⟩
    · rw [if_neg e]
      rcases ih with ih | ⟨h, a1, a2, a3, a4⟩
      · exact Or.inl ih
      · exact Or.inr ⟨h, by omega, a2, a3, a4⟩
theorem mxF_0 (f : Nat) (b : Nat → Nat) : ∀ k, mxF 0 f b k = b f
  | 0 => rfl
  | k + 1 => by rw [mxF, Nat.zero_testBit, Bool.false_and, if_neg (by decide), mxF_0 f b k]
theorem mxF_le {w f n : Nat} {b : Nat → Nat} (hb : ∀ f, b f ≤ n) : ∀ k, mxF w f b k ≤ n + 1
  | 0 => Nat.le_succ_of_le (hb f)
  | k + 1 => by
    rw [mxF]
    have h1 := mxF_le (w := w) (f := f) hb k
    have h2 := hb (dif f (2 ^ k))
    split
    · exact Nat.max_le.mpr ⟨h1, by omega⟩
    · exact h1
/-- how many of the last d people at most, with such hours free -/
def bs (W : Nat → Nat) (P : Nat) : Nat → Nat → Nat
  | 0, _ => 0
  | d + 1, f => mxF (W (P - 1 - d)) f (bs W P d) 6
theorem bs_le (W : Nat → Nat) (P : Nat) : ∀ d f, bs W P d f ≤ d
  | 0, _ => Nat.le_refl 0
  | d + 1, f => by rw [bs]; exact mxF_le (bs_le W P d) 6
def chP (W : Nat → Nat) (P d f : Nat) : Nat → Bool := fun h => (W (P - 1 - d)).testBit h && f.testBit h && decide (1 + bs W P d (dif f (2 ^ h)) = bs W P (d + 1) f)
/-- what the first of the last d + 1 people gets in the first best way -/
def chs (W : Nat → Nat) (P d f : Nat) : Nat := lowest (chP W P d f) 6
theorem chs_le (W : Nat → Nat) (P d f : Nat) : chs W P d f ≤ 6 := by
  unfold chs
  rcases low_sp (chP W P d f) 6 with h | h <;> omega
def nxt (f h : Nat) : Nat := if h = 6 then f else dif f (2 ^ h)
/-- the first best way as a number -/
def gr (W : Nat → Nat) (P : Nat) : Nat → Nat → Nat
  | 0, _ => 0
  | d + 1, f => chs W P d f * 7 ^ d + gr W P d (nxt f (chs W P d f))
theorem seven (d : Nat) : 0 < 7 ^ d := Nat.pow_pos (by decide)
theorem gr_lt (W : Nat → Nat) (P : Nat) : ∀ d f, gr W P d f < 7 ^ d
  | 0, _ => by rw [gr]; exact seven 0
  | d + 1, f => by
    have h1 := gr_lt W P d (nxt f (chs W P d f))
    have h2 := chs_le W P d f
    have h3 : chs W P d f * 7 ^ d ≤ 6 * 7 ^ d := Nat.mul_le_mul_right _ h2
    rw [gr, Nat.pow_succ]
    omega
/-- the figures of a number, from its end -/
def dg (j x : Nat) : Nat := x / 7 ^ j % 7
theorem dg_lt (j x : Nat) : dg j x < 7 := Nat.mod_lt _ (by decide)
theorem dg_top {j h r : Nat} (hr : r < 7 ^ j) (hh : h < 7) : dg j (h * 7 ^ j + r) = h := by
  unfold dg
  rw [Nat.add_comm, Nat.add_mul_div_right _ _ (seven j), Nat.div_eq_of_lt hr, Nat.zero_add, Nat.mod_eq_of_lt hh]
theorem dg_low {j h r i : Nat} (hi : i < j) : dg i (h * 7 ^ j + r) = dg i r := by
  unfold dg
  have e : h * 7 ^ j = (h * 7 ^ (j - i - 1) * 7) * 7 ^ i := by
    rw [Nat.mul_assoc, Nat.mul_assoc, ← Nat.pow_succ', ← Nat.pow_add]
    congr 2; omega
  rw [Nat.add_comm, e, Nat.add_mul_div_right _ _ (seven i), Nat.add_mul_mod_self_right]
def mt (x : Nat) : Nat → Nat
  | 0 => 0
  | j + 1 => mt x j ||| (if dg j x = 6 then 0 else 2 ^ dg j x)
def ct (x : Nat) : Nat → Nat
  | 0 => 0
  | j + 1 => ct x j + (if dg j x = 6 then 0 else 1)
def okF (W : Nat → Nat) (P f x : Nat) : Nat → Bool
  | 0 => true
  | j + 1 => okF W P f x j && (decide (dg j x = 6) || ((W (P - 1 - j)).testBit (dg j x) && (f.testBit (dg j x) && !(mt x j).testBit (dg j x))))
def vl (W : Nat → Nat) (P f j x : Nat) : Nat := if okF W P f x j then ct x j + 1 else 0
theorem ct_le (x : Nat) : ∀ j, ct x j ≤ j
  | 0 => Nat.le_refl 0
  | j + 1 => by
    have := ct_le x j
    rw [ct]; split <;> omega
theorem mt_lt (x : Nat) : ∀ j, mt x j < 2 ^ 6
  | 0 => by rw [mt]; decide
  | j + 1 => by
    rw [mt]
    refine Nat.or_lt_two_pow (mt_lt x j) ?_
    have := dg_lt j x
    split
    · decide
    · exact Nat.pow_lt_pow_right (by decide) (by omega)
theorem mt_cong {x y : Nat} : ∀ j, (∀ i, i < j → dg i x = dg i y) → mt x j = mt y j
  | 0, _ => rfl
  | j + 1, h => by rw [mt, mt, mt_cong j (fun i hi => h i (by omega)), h j (by omega)]
theorem ct_cong {x y : Nat} : ∀ j, (∀ i, i < j → dg i x = dg i y) → ct x j = ct y j
  | 0, _ => rfl
  | j + 1, h => by rw [ct, ct, ct_cong j (fun i hi => h i (by omega)), h j (by omega)]
theorem okF_cong {W : Nat → Nat} {P f x y : Nat} : ∀ j, (∀ i, i < j → dg i x = dg i y) → okF W P f x j = okF W P f y j
  | 0, _ => rfl
  | j + 1, h => by rw [okF, okF, okF_cong j (fun i hi => h i (by omega)), h j (by omega), mt_cong j (fun i hi => h i (by omega))]
theorem okF_dif {W : Nat → Nat} {P f x h : Nat} : ∀ j, okF W P (dif f (2 ^ h)) x j = (okF W P f x j && !(mt x j).testBit h)
  | 0 => by rw [okF, okF, mt, Nat.zero_testBit]; rfl
  | j + 1 => by
    rw [okF, okF, mt, okF_dif j, dif_bit, Nat.testBit_or, Nat.testBit_two_pow]
    by_cases e : dg j x = 6
    · rw [decide_eq_true e, if_pos e, Nat.zero_testBit, Bool.or_false, Bool.true_or, Bool.true_or, Bool.and_true, Bool.and_true]
    · rw [decide_eq_false e, if_neg e, Nat.testBit_two_pow, Bool.false_or, Bool.false_or]
      by_cases q : h = dg j x
      · rw [decide_eq_true q, decide_eq_true q.symm, Bool.not_true, Bool.and_false, Bool.false_and, Bool.and_false, Bool.and_false, Bool.or_true, Bool.not_true, Bool.and_false]
      · rw [decide_eq_false q, decide_eq_false (fun e => q e.symm), Bool.not_false, Bool.and_true, Bool.or_false]
        cases okF W P f x j <;> cases (mt x j).testBit h <;> cases (W (P - 1 - j)).testBit (dg j x) <;> cases f.testBit (dg j x) <;> cases (mt x j).testBit (dg j x) <;> rfl
theorem vl_6 {W : Nat → Nat} {P f j r : Nat} (hr : r < 7 ^ j) : vl W P f (j + 1) (6 * 7 ^ j + r) = vl W P f j r := by
  have h1 : ∀ i, i < j → dg i (6 * 7 ^ j + r) = dg i r := fun i hi => dg_low hi
  unfold vl
  rw [okF, ct, dg_top hr (by decide), okF_cong j h1, ct_cong j h1]
  simp
theorem vl_h {W : Nat → Nat} {P f j r h : Nat} (hr : r < 7 ^ j) (hh : h < 6) : vl W P f (j + 1) (h * 7 ^ j + r) = if (W (P - 1 - j)).testBit h && f.testBit h then (if vl W P (dif f (2 ^ h)) j r = 0 then 0 else vl W P (dif f (2 ^ h)) j r + 1) else 0 := by
  have h1 : ∀ i, i < j → dg i (h * 7 ^ j + r) = dg i r := fun i hi => dg_low hi
  unfold vl
  rw [okF, ct, dg_top hr (by omega), okF_cong j h1, ct_cong j h1, mt_cong j h1, okF_dif, decide_eq_false (show ¬ h = 6 by omega), Bool.false_or, if_neg (show ¬ h = 6 by omega)]
  cases okF W P f r j <;> cases (W (P - 1 - j)).testBit h <;> cases f.testBit h <;> cases (mt r j).testBit h <;> rfl
theorem split7 {d x : Nat} (h : x < 7 ^ (d + 1)) : ∃ a r, a < 7 ∧ r < 7 ^ d ∧ x = a * 7 ^ d + r := by
  refine ⟨x / 7 ^ d, x % 7 ^ d, ?_, Nat.mod_lt _ (seven d), ?_⟩
  · rw [Nat.pow_succ] at h
    exact Nat.div_lt_of_lt_mul h
  · have := Nat.div_add_mod x (7 ^ d)
    rw [Nat.mul_comm] at this
    exact this.symm
theorem best_up (W : Nat → Nat) (P : Nat) : ∀ d f x, x < 7 ^ d → vl W P f d x ≤ bs W P d f + 1
  | 0, f, x, _ => by unfold vl; rw [okF, if_pos rfl, ct]; omega
  | d + 1, f, x, hx => by
    obtain ⟨a, r, ha, hr, rfl⟩ := split7 hx
    rw [bs]
    by_cases e : a = 6
    · subst e
      rw [vl_6 hr]
      have h1 := best_up W P d f r hr
      have h2 := mxF_ge0 (W (P - 1 - d)) f (bs W P d) 6
      omega
    · rw [vl_h hr (by omega)]
      by_cases q : ((W (P - 1 - d)).testBit a && f.testBit a) = true
      · rw [if_pos q]
        rw [Bool.and_eq_true] at q
        have h1 := best_up W P d (dif f (2 ^ a)) r hr
        have h2 := mxF_ge (b := bs W P d) q.1 q.2 6 (by omega)
        split <;> omega
      · rw [if_neg q]; omega
theorem best_at (W : Nat → Nat) (P : Nat) : ∀ d f, vl W P f d (gr W P d f) = bs W P d f + 1 ∧ ∀ x, x < gr W P d f → vl W P f d x < bs W P d f + 1
  | 0, f => by
    refine ⟨?_, fun x hx => absurd hx (by rw [gr]; omega)⟩
    unfold vl; rw [okF, if_pos rfl, ct, bs]
  | d + 1, f => by
    have key : ∀ a, a < 6 → chP W P d f a = false → ∀ r, r < 7 ^ d → vl W P f (d + 1) (a * 7 ^ d + r) < bs W P (d + 1) f + 1 := fun a ha hc r hr => by
      rw [vl_h hr ha]
      by_cases q : ((W (P - 1 - d)).testBit a && f.testBit a) = true
      · rw [if_pos q]
        unfold chP at hc
        rw [q, Bool.true_and] at hc
        rw [Bool.and_eq_true] at q
        have h1 := best_up W P d (dif f (2 ^ a)) r hr
        have h2 := mxF_ge (b := bs W P d) q.1 q.2 6 ha
        have h3 := of_decide_eq_false hc
        rw [bs] at h3 ⊢
        split <;> omega
      · rw [if_neg q]; omega
    rcases low_sp (chP W P d f) 6 with ⟨h1, h2⟩ | ⟨h1, h2, h3⟩
    · have e1 : chs W P d f = 6 := h1
      have e2 : bs W P (d + 1) f = bs W P d f := by
        rw [bs]
        rcases mxF_at (w := W (P - 1 - d)) (f := f) (b := bs W P d) 6 with h | ⟨h, a1, a2, a3, a4⟩
        · exact h
        · have := h2 h a1
          unfold chP at this
          rw [a2, a3, Bool.true_and, Bool.true_and, bs] at this
          exact absurd a4.symm (of_decide_eq_false this)
      have hl := gr_lt W P d f
      obtain ⟨i1, i2⟩ := best_at W P d f
      rw [gr, e1, nxt, if_pos rfl]
      refine ⟨by rw [vl_6 hl, i1, e2], fun x hx => ?_⟩
      obtain ⟨a, r, ha, hr, rfl⟩ := split7 (show x < 7 ^ (d + 1) by rw [Nat.pow_succ]; omega)
      by_cases e : a = 6
      · subst e
        rw [vl_6 hr, e2]
        exact i2 r (by omega)
      · exact key a (by omega) (h2 a (by omega)) r hr
    · have hl := gr_lt W P d (dif f (2 ^ chs W P d f))
      have hlt : chs W P d f < 6 := h1
      have hc : chP W P d f (chs W P d f) = true := h2
      have hlow : ∀ q, q < chs W P d f → chP W P d f q = false := h3
      obtain ⟨i1, i2⟩ := best_at W P d (dif f (2 ^ chs W P d f))
      rw [gr, nxt, if_neg (by omega)]
      generalize chs W P d f = c at *
      have hc' := hc
      unfold chP at hc'
      rw [Bool.and_eq_true, decide_eq_true_eq] at hc'
      refine ⟨by rw [vl_h hl hlt, if_pos hc'.1, i1, if_neg (by omega)]; omega, fun x hx => ?_⟩
      have h6 : c * 7 ^ d ≤ 5 * 7 ^ d := Nat.mul_le_mul_right _ (by omega)
      obtain ⟨a, r, ha, hr, rfl⟩ := split7 (show x < 7 ^ (d + 1) by rw [Nat.pow_succ]; omega)
      rcases Nat.lt_trichotomy a c with e | e | e
      · exact key a (by omega) (hlow a e) r hr
      · subst e
        have := i2 r (by omega)
        rw [vl_h hr hlt, if_pos hc'.1]
        split <;> omega
      · have h7 : (c + 1) * 7 ^ d ≤ a * 7 ^ d := Nat.mul_le_mul_right _ e
        rw [Nat.add_mul, Nat.one_mul] at h7
        omega
/-- the search: m less 1 is the most so far, b the first number that has it -/
def IsB (v : Nat → Nat) (n m b : Nat) : Prop := (∀ i, i < n → v i ≤ m) ∧ (m = 0 ∨ (b < n ∧ v b = m ∧ ∀ i, i < b → v i < m))
theorem IsB_0 (v : Nat → Nat) (b : Nat) : IsB v 0 0 b := ⟨fun i hi => absurd hi (by omega), Or.inl rfl⟩
theorem IsB_up {v : Nat → Nat} {n m b : Nat} (h : IsB v n m b) (hv : m < v n) : IsB v (n + 1) (v n) n :=
  ⟨fun i hi => by
    by_cases e : i = n
    · subst e; exact Nat.le_refl _
    · have := h.1 i (by omega); omega, Or.inr ⟨by omega, rfl, fun i hi => by have := h.1 i hi; omega⟩⟩
theorem IsB_no {v : Nat → Nat} {n m b : Nat} (h : IsB v n m b) (hv : v n ≤ m) : IsB v (n + 1) m b :=
  ⟨fun i hi => by
    by_cases e : i = n
    · subst e; exact hv
    · exact h.1 i (by omega), h.2.imp id (fun q => ⟨by omega, q.2⟩)⟩
theorem IsB_end {W : Nat → Nat} {P f m b : Nat} (h : IsB (vl W P f P) (7 ^ P) m b) : m = bs W P P f + 1 ∧ b = gr W P P f := by
  obtain ⟨h1, h2⟩ := best_at W P P f
  have h3 := h.1 _ (gr_lt W P P f)
  rcases h.2 with h4 | ⟨h4, h5, h6⟩
  · omega
  · have h7 := best_up W P P f b h4
    have hm : m = bs W P P f + 1 := by omega
    refine ⟨hm, ?_⟩
    rcases Nat.lt_trichotomy b (gr W P P f) with q | q | q
    · have := h2 b q; omega
    · exact q
    · have := h6 _ q; omega
/-- the hours free when it is the turn of person i -/
def fr (W : Nat → Nat) (P H : Nat) : Nat → Nat
  | 0 => H
  | i + 1 => nxt (fr W P H i) (chs W P (P - 1 - i) (fr W P H i))
theorem gr_dg {W : Nat → Nat} {d f : Nat} {P : Nat} : dg d (gr W P (d + 1) f) = chs W P d f := by
  rw [gr]; exact dg_top (gr_lt W P d _) (by have := chs_le W P d f; omega)
theorem fr_dg {W : Nat → Nat} {P H : Nat} : ∀ i, i ≤ P → ∀ j, j < P - i → dg j (gr W P P H) = dg j (gr W P (P - i) (fr W P H i))
  | 0, _, j, _ => rfl
  | i + 1, hi, j, hj => by
    rw [fr_dg i (by omega) j (by omega)]
    obtain ⟨d, hd⟩ : ∃ d, P - i = d + 1 := ⟨P - i - 1, by omega⟩
    rw [hd, gr, dg_low (by omega), fr, show P - 1 - i = d by omega, show P - (i + 1) = d by omega]
theorem way_dg {W : Nat → Nat} {P H p : Nat} (hp : p < P) : dg (P - 1 - p) (gr W P P H) = chs W P (P - 1 - p) (fr W P H p) := by
  rw [fr_dg p (by omega) (P - 1 - p) (by omega)]
  obtain ⟨d, hd⟩ : ∃ d, P - p = d + 1 := ⟨P - p - 1, by omega⟩
  rw [hd, show P - 1 - p = d by omega]
  exact gr_dg
theorem nxt_sub (f h : Nat) : sub (nxt f h) f := by
  unfold nxt
  split
  · exact sub_self f
  · exact sub_dif f _
theorem fr_sub {W : Nat → Nat} {P H : Nat} : ∀ i, sub (fr W P H i) H
  | 0 => sub_self H
  | i + 1 => fun j hj => fr_sub i j (nxt_sub _ _ j hj)

