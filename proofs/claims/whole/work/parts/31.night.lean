/-! 31.night: a night, told in numbers only -/
def who (hs : Nat → Nat) (s h : Nat) : Nat → Nat
  | 0 => 6
  | n + 1 => if s.testBit n && decide (hs n = h) then n else who hs s h n
theorem who_some {hs : Nat → Nat} {s h : Nat} : ∀ {n : Nat}, n ≤ 6 → who hs s h n ≠ 6 → who hs s h n < n ∧ s.testBit (who hs s h n) = true ∧ hs (who hs s h n) = h
  | 0, _, h => absurd rfl h
  | n + 1, hn, hh => by
    rw [who] at *
    split
    · rename_i q
      rw [Bool.and_eq_true_iff, decide_eq_true_eq] at q
      exact ⟨by omega, q.1, q.2⟩
    · rename_i q
      rw [if_neg q] at hh
      have := who_some (n := n) (by omega) hh
      exact ⟨by omega, this.2⟩
theorem who_none {hs : Nat → Nat} {s h : Nat} : ∀ {n : Nat}, n ≤ 6 → who hs s h n = 6 → ∀ i, i < n → s.testBit i = true → hs i ≠ h
  | 0, _, _, i, hi, _ => absurd hi (by omega)
  | n + 1, hn, hh, i, hi, hb => by
    rw [who] at hh
    split at hh
    · omega
    · rename_i q
      rw [Bool.and_eq_true_iff, decide_eq_true_eq] at q
      by_cases e : i = n
      · subst e; exact fun h2 => q ⟨hb, h2⟩
      · exact who_none (n := n) (by omega) hh i (by omega) hb
theorem who_le {hs : Nat → Nat} {s h n : Nat} (hn : n ≤ 6) : who hs s h n ≤ 6 := by
  by_cases e : who hs s h n = 6
  · omega
  · have := who_some hn e; omega
/-- who gave an hour, when one goes out -/
theorem who_out {hs : Nat → Nat} {s p h : Nat} : ∀ {n : Nat}, (∀ q, q < n → s.testBit q = true → hs q = hs p → q = p) → p < n ∧ s.testBit p = true ∨ n ≤ p → n ≤ 6 → who hs (dif s (2 ^ p)) h n = if p < n ∧ h = hs p then 6 else who hs s h n
  | 0, _, _, _ => by simp [who]
  | n + 1, hinj, hp, h6 => by
    rw [who, who, dif_bit, Nat.testBit_two_pow]
    by_cases e : p = n
    · subst e
      rw [decide_eq_true rfl, Bool.not_true, Bool.and_false, Bool.false_and, if_neg (by decide), who_out (fun q hq => hinj q (by omega)) (Or.inr (Nat.le_refl _)) (by omega)]
      rw [if_neg (show ¬ (p < p ∧ h = hs p) by omega)]
      have hs1 : s.testBit p = true := hp.elim (fun q => q.2) (fun q => absurd q (by omega))
      by_cases eh : h = hs p
      · rw [if_pos ⟨by omega, eh⟩]
        subst eh
        by_cases e6 : who hs s (hs p) p = 6
        · exact e6
        · have h1 := who_some (show p ≤ 6 by omega) e6
          have := hinj _ (by omega) h1.2.1 h1.2.2
          omega
      · rw [if_neg (fun q => eh q.2), hs1, decide_eq_false (fun q => eh q.symm)]; rfl
    · rw [decide_eq_false e, Bool.not_false, Bool.and_true, who_out (n := n) (fun q hq => hinj q (by omega)) (hp.elim (fun q => Or.inl ⟨by omega, q.2⟩) (fun q => Or.inr (by omega))) (by omega)]
      by_cases c : s.testBit n && decide (hs n = h)
      · rw [if_pos c, if_pos c]
        rw [Bool.and_eq_true_iff, decide_eq_true_eq] at c
        by_cases q : p < n + 1 ∧ h = hs p
        · have := hinj n (by omega) c.1 (by rw [c.2, q.2]); omega
        · rw [if_neg q]
      · rw [if_neg c, if_neg c]
        by_cases q : p < n + 1 ∧ h = hs p
        · rw [if_pos q, if_pos ⟨by omega, q.2⟩]
        · rw [if_neg q, if_neg (fun q' => q ⟨by omega, q'.2⟩)]
/-- whom one points at -/
def aimR (wh d : Nat → Nat) (l : List Nat) : Nat → Nat × Nat
  | 0 => (6, 0)
  | k + 1 => if wh (l.getD k 0) = 6 then aimR wh d l k else if (aimR wh d l k).1 = 6 ∨ d k < (aimR wh d l k).2 then (wh (l.getD k 0), d k) else aimR wh d l k
def absd (a b : Nat) : Nat := if b ≤ a then a - b else b - a
def dX (WT : Nat → Nat) (w : Nat) (l : List Nat) (hp k : Nat) : Nat := if w = 0 then k else if w = 1 then absd (WT (l.getD k 0)) (WT hp) else l.getD k 0
def dM (WT : Nat → Nat) (w : Nat) (l : List Nat) (hp k : Nat) : Nat := if w = 0 then 0 else if w = 1 then absd (WT (l.getD k 0)) (WT hp) else l.getD k 0
theorem aim_val (wh d : Nat → Nat) (l : List Nat) : ∀ k, (aimR wh d l k).1 = 6 ∨ ∃ j, j < k ∧ wh (l.getD j 0) ≠ 6 ∧ (aimR wh d l k).1 = wh (l.getD j 0)
  | 0 => Or.inl rfl
  | k + 1 => by
    rw [aimR]
    split
    · rcases aim_val wh d l k with q | ⟨j, q1, q2⟩
      · exact Or.inl q
      · exact Or.inr ⟨j, by omega, q2⟩
    · split
      · rename_i q _
        exact Or.inr ⟨k, by omega, q, rfl⟩
      · rcases aim_val wh d l k with q | ⟨j, q1, q2⟩
        · exact Or.inl q
        · exact Or.inr ⟨j, by omega, q2⟩
theorem aim_eq (wh : Nat → Nat) (WT : Nat → Nat) (w : Nat) (l : List Nat) (hp : Nat) : ∀ k, (aimR wh (dX WT w l hp) l k).1 = (aimR wh (dM WT w l hp) l k).1 ∧ (w ≠ 0 → (aimR wh (dX WT w l hp) l k).2 = (aimR wh (dM WT w l hp) l k).2) ∧ (w = 0 → (aimR wh (dX WT w l hp) l k).2 ≤ k ∧ (aimR wh (dM WT w l hp) l k).2 = 0)
  | 0 => ⟨rfl, fun _ => rfl, fun _ => ⟨Nat.le_refl _, rfl⟩⟩
  | k + 1 => by
    obtain ⟨h1, h2, h3⟩ := aim_eq wh WT w l hp k
    rw [aimR, aimR]
    by_cases q : wh (l.getD k 0) = 6
    · rw [if_pos q, if_pos q]
      exact ⟨h1, h2, fun e => ⟨by have := (h3 e).1; omega, (h3 e).2⟩⟩
    · rw [if_neg q, if_neg q, h1]
      by_cases e0 : w = 0
      · have h4 := h3 e0
        have d1 : dX WT w l hp k = k := if_pos e0
        have d2 : dM WT w l hp k = 0 := if_pos e0
        rw [d1, d2, h4.2]
        by_cases c : (aimR wh (dM WT w l hp) l k).1 = 6
        · rw [if_pos (Or.inl c), if_pos (Or.inl c)]
          exact ⟨rfl, fun h => absurd e0 h, fun _ => ⟨by dsimp only; omega, rfl⟩⟩
        · rw [if_neg (by omega), if_neg (by omega)]
          exact ⟨h1, fun h => absurd e0 h, fun _ => ⟨by omega, h4.2⟩⟩
      · have d1 : dX WT w l hp k = dM WT w l hp k := by unfold dX dM; rw [if_neg e0, if_neg e0]
        rw [d1, h2 e0]
        split
        · exact ⟨rfl, fun _ => rfl, fun h => absurd h e0⟩
        · exact ⟨h1, h2, fun h => absurd h e0⟩
def aimP (P : Nat) (WL : Nat → List Nat) (WT hs : Nat → Nat) (w s p : Nat) : Nat := (aimR (fun h => who hs s h P) (dX WT w (WL p) (hs p)) (WL p) (WL p).length).1
theorem aimP_M (P : Nat) (WL : Nat → List Nat) (WT hs : Nat → Nat) (w s p : Nat) : aimP P WL WT hs w s p = (aimR (fun h => who hs s h P) (dM WT w (WL p) (hs p)) (WL p) (WL p).length).1 := (aim_eq _ WT w (WL p) (hs p) _).1
theorem aimP_in {P : Nat} (hP : P ≤ 6) {WL : Nat → List Nat} {WT hs : Nat → Nat} {w s p : Nat} (h : aimP P WL WT hs w s p ≠ 6) : aimP P WL WT hs w s p < P ∧ s.testBit (aimP P WL WT hs w s p) = true := by
  unfold aimP at *
  rcases aim_val (fun h => who hs s h P) (dX WT w (WL p) (hs p)) (WL p) (WL p).length with q | ⟨j, _, q1, q2⟩
  · exact absurd q h
  · rw [q2]
    have := who_some hP q1
    exact ⟨this.1, this.2.1⟩
/-- steps along a ring -/
def it (nx : Nat → Nat) : Nat → Nat → Nat
  | 0, q => q
  | n + 1, q => nx (it nx n q)
theorem it_add (nx : Nat → Nat) (q m : Nat) : ∀ n, it nx (n + m) q = it nx n (it nx m q)
  | 0 => by rw [Nat.zero_add]; rfl
  | n + 1 => by rw [Nat.succ_add, it, it, it_add nx q m n]
theorem it_in {nx : Nat → Nat} {s : Nat} (h : ∀ p, s.testBit p = true → s.testBit (nx p) = true) {q : Nat} (hq : s.testBit q = true) : ∀ n, s.testBit (it nx n q) = true
  | 0 => hq
  | n + 1 => h _ (it_in h hq n)
def col (nx : Nat → Nat) (q : Nat) : Nat → Nat
  | 0 => 0
  | n + 1 => col nx q n ||| 2 ^ it nx n q
theorem col_bit (nx : Nat → Nat) (q p : Nat) : ∀ n, (col nx q n).testBit p = true ↔ ∃ j, j < n ∧ it nx j q = p
  | 0 => by simp [col]
  | n + 1 => by
    rw [col, Nat.testBit_or, Bool.or_eq_true_iff, col_bit nx q p n, Nat.testBit_two_pow, decide_eq_true_eq]
    constructor
    · rintro (⟨j, h1, h2⟩ | h)
      · exact ⟨j, by omega, h2⟩
      · exact ⟨n, by omega, h⟩
    · rintro ⟨j, h1, h2⟩
      by_cases e : j = n
      · exact Or.inr (e ▸ h2)
      · exact Or.inl ⟨j, by omega, h2⟩
theorem popc_or {g a : Nat} (h : g.testBit a = false) : ∀ n, popc (g ||| 2 ^ a) n = popc g n + if a < n then 1 else 0
  | 0 => by simp [popc]
  | n + 1 => by
    rw [popc, popc, popc_or h n, Nat.testBit_or, Nat.testBit_two_pow]
    by_cases e : a = n
    · subst e; simp [h]
    · by_cases e2 : a < n
      · simp [e, e2, show a < n + 1 by omega]; omega
      · simp [e, e2, show ¬ a < n + 1 by omega]
theorem col_popc {nx : Nat → Nat} {q : Nat} (h6 : ∀ n, it nx n q < 6) : ∀ n, (∀ m, m < n → (col nx q m).testBit (it nx m q) = false) → popc (col nx q n) 6 = n
  | 0, _ => by simp [col, popc]
  | n + 1, h => by rw [col, popc_or (h n (by omega)), col_popc h6 n (fun m hm => h m (by omega)), if_pos (h6 n)]
/-- where the steps first come to one who was there -/
theorem rep_ex {nx : Nat → Nat} {q : Nat} (h6 : ∀ n, it nx n q < 6) : ∃ n, n ≤ 6 ∧ (col nx q n).testBit (it nx n q) = true ∧ ∀ m, m < n → (col nx q m).testBit (it nx m q) = false := by
  by_cases h : ∃ n, (col nx q n).testBit (it nx n q) = true
  · obtain ⟨n, h1, h2⟩ := pk_least _ h
    have h3 : ∀ m, m < n → (col nx q m).testBit (it nx m q) = false := fun m hm => by
      cases e : (col nx q m).testBit (it nx m q)
      · rfl
      · exact absurd e (h2 m hm)
    have h4 := col_popc h6 n h3
    have h5 := popc_le (col nx q n) 6
    exact ⟨n, by omega, h1, h3⟩
  · have h3 : ∀ m, m < 7 → (col nx q m).testBit (it nx m q) = false := fun m hm => by
      cases e : (col nx q m).testBit (it nx m q)
      · rfl
      · exact absurd ⟨m, e⟩ h
    have h4 := col_popc h6 7 h3
    have h5 := popc_le (col nx q 7) 6
    omega
theorem col_closed {nx : Nat → Nat} {q n : Nat} (h : (col nx q n).testBit (it nx n q) = true) : ∀ m, (col nx q n).testBit (it nx m q) = true := by
  have hn : 0 < n := by
    rcases Nat.eq_zero_or_pos n with rfl | h0
    · simp [col] at h
    · exact h0
  intro m
  induction m with
  | zero => exact (col_bit nx q _ n).mpr ⟨0, hn, rfl⟩
  | succ m ih =>
    obtain ⟨j, h1, h2⟩ := (col_bit nx q _ n).mp ih
    rw [it, ← h2]
    by_cases e : j + 1 = n
    · have : nx (it nx j q) = it nx n q := by rw [← e]; rfl
      rw [this]; exact h
    · exact (col_bit nx q _ n).mpr ⟨j + 1, by omega, rfl⟩
theorem col_6 {nx : Nat → Nat} {q n : Nat} (hn : n ≤ 6) (h : (col nx q n).testBit (it nx n q) = true) : col nx q n = col nx q 6 := Nat.eq_of_testBit_eq (fun p => by
  apply Bool.eq_iff_iff.mpr
  constructor
  · intro hp
    obtain ⟨j, h1, h2⟩ := (col_bit nx q p n).mp hp
    exact (col_bit nx q p 6).mpr ⟨j, by omega, h2⟩
  · intro hp
    obtain ⟨j, h1, h2⟩ := (col_bit nx q p 6).mp hp
    rw [← h2]; exact col_closed h j)
/-- the ring that is reached from q -/
def ringS (nx : Nat → Nat) (q : Nat) : Nat := col nx (it nx 6 q) 6
theorem it_per {nx : Nat → Nat} {r j : Nat} (h : it nx j r = r) : ∀ m, it nx (j * m) r = r
  | 0 => rfl
  | m + 1 => by rw [Nat.mul_succ, Nat.add_comm, it_add, it_per h m, h]
theorem per_6 {nx : Nat → Nat} {q : Nat} (h6 : ∀ n, it nx n q < 6) : ∃ j, 0 < j ∧ it nx j (it nx 6 q) = it nx 6 q := by
  obtain ⟨n, hn, h1, _⟩ := rep_ex h6
  obtain ⟨i, h2, h3⟩ := (col_bit nx q _ n).mp h1
  have e : it nx (n - i) (it nx i q) = it nx i q := by rw [← it_add, show n - i + i = n by omega, h3]
  refine ⟨n - i, by omega, ?_⟩
  rw [show (6 : Nat) = (6 - i) + i by omega, it_add, ← it_add, Nat.add_comm, it_add, e]
/-- the first who is met twice is in the same ring -/
theorem ring_eq {nx : Nat → Nat} {q n m : Nat} (hn : n ≤ 6) (h1 : (col nx q n).testBit (it nx n q) = true) (hm : m ≤ 6) (h2 : (col nx (it nx n q) m).testBit (it nx m (it nx n q)) = true) (h6 : ∀ n, it nx n q < 6) : col nx (it nx n q) m = ringS nx q := by
  obtain ⟨i, hi, h3⟩ := (col_bit nx q _ n).mp h1
  have e : it nx (n - i) (it nx n q) = it nx n q := by
    rw [← h3, ← it_add, show n - i + i = n by omega, h3]
  have e6 : it nx 6 q = it nx (6 - n) (it nx n q) := by rw [← it_add, show 6 - n + n = 6 by omega]
  unfold ringS
  apply Nat.eq_of_testBit_eq
  intro p
  apply Bool.eq_iff_iff.mpr
  obtain ⟨k, hk, h4, _⟩ := rep_ex (nx := nx) (q := it nx 6 q) (fun n => by rw [← it_add]; exact h6 _)
  constructor
  · intro hp
    obtain ⟨j, h5, h7⟩ := (col_bit nx _ p m).mp hp
    rw [← col_6 hk h4]
    have : p = it nx (j + ((n - i) * 6 - (6 - n))) (it nx 6 q) := by
      rw [← h7, it_add nx _ ((n - i) * 6 - (6 - n)) j, e6, ← it_add nx (it nx n q) (6 - n)]
      have h8 : 6 ≤ (n - i) * 6 := by omega
      rw [show (n - i) * 6 - (6 - n) + (6 - n) = (n - i) * 6 by omega, it_per e]
    rw [this]; exact col_closed h4 _
  · intro hp
    obtain ⟨j, h5, h7⟩ := (col_bit nx _ p 6).mp hp
    rw [← h7, e6, ← it_add]
    exact col_closed h2 _
theorem ring_in {nx : Nat → Nat} {s q : Nat} (h : ∀ p, s.testBit p = true → s.testBit (nx p) = true) (hq : s.testBit q = true) : sub (ringS nx q) s := fun p hp => by
  obtain ⟨j, _, h2⟩ := (col_bit nx _ p 6).mp hp
  rw [← h2, ← it_add]
  exact it_in h hq _
/-- within a ring no two point at the same -/
theorem ring_inj {nx : Nat → Nat} {q a b : Nat} (h6 : ∀ n, it nx n q < 6) (ha : (ringS nx q).testBit a = true) (hb : (ringS nx q).testBit b = true) (h : nx a = nx b) : a = b := by
  obtain ⟨j, hj, e⟩ := per_6 h6
  obtain ⟨x, _, hx⟩ := (col_bit nx _ a 6).mp ha
  obtain ⟨y, _, hy⟩ := (col_bit nx _ b 6).mp hb
  have key : ∀ x p, it nx x (it nx 6 q) = p → p = it nx (j - 1) (nx p) := fun x p hx => by
    have h1 : it nx j p = p := by rw [← hx, ← it_add, Nat.add_comm, it_add, e]
    have h2 : nx p = it nx 1 p := rfl
    rw [h2, ← it_add, show j - 1 + 1 = j by omega, h1]
  rw [key x a hx, key y b hy, h]
theorem ring_ne {nx : Nat → Nat} {q : Nat} : (ringS nx q).testBit (it nx 6 q) = true := (col_bit nx _ _ 6).mpr ⟨0, by omega, rfl⟩
theorem ring_nx {nx : Nat → Nat} {q a : Nat} (h6 : ∀ n, it nx n q < 6) (ha : (ringS nx q).testBit a = true) : (ringS nx q).testBit (nx a) = true := by
  obtain ⟨k, hk, h4, _⟩ := rep_ex (nx := nx) (q := it nx 6 q) (fun n => by rw [← it_add]; exact h6 _)
  obtain ⟨j, _, h7⟩ := (col_bit nx _ a 6).mp ha
  unfold ringS
  rw [← col_6 hk h4, ← h7]
  exact col_closed h4 (j + 1)
/-- the lowest for whom f says yes -/
def lowF (f : Nat → Bool) : Nat → Nat → Nat
  | 0, i => i
  | d + 1, i => if f i then i else lowF f d (i + 1)
def lowest (f : Nat → Bool) (P : Nat) : Nat := lowF f P 0
theorem lowF_eq {f : Nat → Bool} {p : Nat} (hf : f p = true) : ∀ d i, i ≤ p → p < i + d → (∀ q, i ≤ q → q < p → f q = false) → lowF f d i = p
  | 0, i, h1, h2, _ => by omega
  | d + 1, i, h1, h2, h => by
    rw [lowF]
    by_cases e : i = p
    · subst e; rw [if_pos hf]
    · rw [if_neg (by rw [h i (by omega) (by omega)]; decide), lowF_eq hf d (i + 1) (by omega) (by omega) (fun q h3 h4 => h q (by omega) h4)]
theorem lowest_eq {f : Nat → Bool} {P p : Nat} (hf : f p = true) (hp : p < P) (h : ∀ q, q < p → f q = false) : lowest f P = p := lowF_eq hf P 0 (by omega) (by omega) (fun q _ h2 => h q h2)
theorem lowF_none {f : Nat → Bool} : ∀ d i, (∀ q, i ≤ q → q < i + d → f q = false) → lowF f d i = i + d
  | 0, i, _ => rfl
  | d + 1, i, h => by rw [lowF, if_neg (by rw [h i (by omega) (by omega)]; decide), lowF_none d (i + 1) (fun q h1 h2 => h q (by omega) (by omega))]; omega
theorem lowest_none {f : Nat → Bool} {P : Nat} (h : ∀ q, q < P → f q = false) : lowest f P = P := by
  have := lowF_none (f := f) P 0 (fun q _ h2 => h q (by omega))
  rw [Nat.zero_add] at this; exact this
/-- one round, and the rounds -/
abbrev NS := (Nat) × (Nat) × (List Nat) × (Nat → Nat)
def dumb (P : Nat) (WL : Nat → List Nat) (WT hs : Nat → Nat) (w s : Nat) : Nat → Bool := fun p => s.testBit p && decide (aimP P WL WT hs w s p = 6)
def roundF (P : Nat) (WL : Nat → List Nat) (WT hs : Nat → Nat) (w : Nat) (σ : NS) : NS :=
  if lowest (dumb P WL WT hs w σ.1) P < P then
    ⟨dif σ.1 (2 ^ lowest (dumb P WL WT hs w σ.1) P), σ.2.1, σ.2.2.1 ++ [hs (lowest (dumb P WL WT hs w σ.1) P)], σ.2.2.2⟩
  else
    ⟨dif σ.1 (ringS (aimP P WL WT hs w σ.1) (lowest (fun p => σ.1.testBit p) P)), σ.2.1 ||| ringS (aimP P WL WT hs w σ.1) (lowest (fun p => σ.1.testBit p) P), σ.2.2.1, fun p => if (ringS (aimP P WL WT hs w σ.1) (lowest (fun p => σ.1.testBit p) P)).testBit p then hs (aimP P WL WT hs w σ.1 p) else σ.2.2.2 p⟩
def nightF (P : Nat) (WL : Nat → List Nat) (WT hs : Nat → Nat) (w : Nat) : Nat → NS → NS
  | 0, σ => σ
  | d + 1, σ => if σ.1 = 0 then σ else nightF P WL WT hs w d (roundF P WL WT hs w σ)
/-- what holds of the rounds: g is who gave -/
abbrev NI (P g : Nat) (hs : Nat → Nat) (σ : NS) : Prop := (g < 2 ^ P) ∧ (∀ p, p < P → g.testBit p = true → hs p < P) ∧ (∀ p q, p < P → q < P → g.testBit p = true → g.testBit q = true → hs p = hs q → p = q) ∧ (sub σ.1 g) ∧ (sub σ.2.1 g) ∧ (∀ p, σ.1.testBit p = true → σ.2.1.testBit p = false) ∧ (∀ p, σ.2.1.testBit p = false → σ.2.2.2 p = 6) ∧ (∀ p, σ.2.1.testBit p = true → ∃ p', σ.2.1.testBit p' = true ∧ σ.2.2.2 p = hs p') ∧ (∀ p q, σ.2.1.testBit p = true → σ.2.1.testBit q = true → σ.2.2.2 p = σ.2.2.2 q → p = q) ∧ (σ.2.2.1.length + popc σ.2.1 6 + popc σ.1 6 = popc g 6) ∧ (∀ h, h ∈ σ.2.2.1 → h < P)
theorem NI.gP {P g : Nat} {hs : Nat → Nat} {σ : NS} (zz : NI P g hs σ) : g < 2 ^ P := zz.1
theorem NI.hgl {P g : Nat} {hs : Nat → Nat} {σ : NS} (zz : NI P g hs σ) : ∀ p, p < P → g.testBit p = true → hs p < P := zz.2.1
theorem NI.hgi {P g : Nat} {hs : Nat → Nat} {σ : NS} (zz : NI P g hs σ) : ∀ p q, p < P → q < P → g.testBit p = true → g.testBit q = true → hs p = hs q → p = q := zz.2.2.1
theorem NI.sg {P g : Nat} {hs : Nat → Nat} {σ : NS} (zz : NI P g hs σ) : sub σ.1 g := zz.2.2.2.1
theorem NI.rgg {P g : Nat} {hs : Nat → Nat} {σ : NS} (zz : NI P g hs σ) : sub σ.2.1 g := zz.2.2.2.2.1
theorem NI.dis {P g : Nat} {hs : Nat → Nat} {σ : NS} (zz : NI P g hs σ) : ∀ p, σ.1.testBit p = true → σ.2.1.testBit p = false := zz.2.2.2.2.2.1
theorem NI.gt6 {P g : Nat} {hs : Nat → Nat} {σ : NS} (zz : NI P g hs σ) : ∀ p, σ.2.1.testBit p = false → σ.2.2.2 p = 6 := zz.2.2.2.2.2.2.1
theorem NI.gtr {P g : Nat} {hs : Nat → Nat} {σ : NS} (zz : NI P g hs σ) : ∀ p, σ.2.1.testBit p = true → ∃ p', σ.2.1.testBit p' = true ∧ σ.2.2.2 p = hs p' := zz.2.2.2.2.2.2.2.1
theorem NI.gti {P g : Nat} {hs : Nat → Nat} {σ : NS} (zz : NI P g hs σ) : ∀ p q, σ.2.1.testBit p = true → σ.2.1.testBit q = true → σ.2.2.2 p = σ.2.2.2 q → p = q := zz.2.2.2.2.2.2.2.2.1
theorem NI.len {P g : Nat} {hs : Nat → Nat} {σ : NS} (zz : NI P g hs σ) : σ.2.2.1.length + popc σ.2.1 6 + popc σ.1 6 = popc g 6 := zz.2.2.2.2.2.2.2.2.2.1
theorem NI.Lg {P g : Nat} {hs : Nat → Nat} {σ : NS} (zz : NI P g hs σ) : ∀ h, h ∈ σ.2.2.1 → h < P := zz.2.2.2.2.2.2.2.2.2.2

