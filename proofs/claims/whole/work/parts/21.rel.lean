/-! 21.rel: what the two sides have in common -/
theorem if10 {α : Type} (A B : α) : (if (1 : Int32) = 0 then A else B) = B := rfl
theorem if00 {α : Type} (A B : α) : (if (0 : Int32) = 0 then A else B) = A := rfl
theorem within_no {ρ : Type} (N : Nat) {x a b : Int32} (h : x < a ∨ b < x) (k : Int32 → Option ρ) : f_X7_within N x a b k = k 0 := by
  unfold f_X7_within
  by_cases h0 : x < a
  · rw [if_pos h0]
  · rw [if_neg h0, if_pos (h.resolve_left h0)]
theorem within_yes {ρ : Type} (N : Nat) {x a b : Int32} (h : ¬ x < a) (h2 : ¬ b < x) (k : Int32 → Option ρ) : f_X7_within N x a b k = k 1 := by
  unfold f_X7_within
  rw [if_neg h, if_neg h2]
/-- a number within 0 .. n, or not -/
theorem win (x : Int32) {b : Int32} {n : Nat} (hb : b = nI n) (hn : n < 2 ^ 31) : (x < 0 ∨ b < x) ∨ ∃ j, j ≤ n ∧ x = nI j ∧ ¬ x < 0 ∧ ¬ b < x := by
  subst hb
  by_cases h0 : x < 0
  · exact Or.inl (Or.inl h0)
  · by_cases h1 : nI n < x
    · exact Or.inl (Or.inr h1)
    · obtain ⟨j, hj, e⟩ := nI_of2 (nI_toInt hn) h0 (Int32.not_lt.mp h1)
      exact Or.inr ⟨j, hj, e, h0, h1⟩
/-- the text -/
def Rt (len : Int32) (letters : Nat → Int32) (texted : Int32) (text : Nat → Int32) : Prop :=
  ∃ L, L ≤ 150 ∧ len = nI L ∧ texted = nI L ∧ ∀ i, i < L → letters i = text i ∧ ∃ c, c ≤ 255 ∧ text i = nI c
/-- the people: P of them, WT their weights, WL their wants -/
def Rp (P : Nat) (WL : Nat → List Nat) (WT : Nat → Nat) (size : Int32) (weight wantCount wantBits : Nat → Int32) (wanted : Nat → Nat → Int32) (people : Int32) (mweight mwants mwantsMany : Nat → Int32) : Prop :=
  P ≤ 6 ∧ size = nI P ∧ people = nI P ∧ (∀ p, p < P → 1 ≤ WT p ∧ WT p ≤ 60 ∧ weight p = nI (WT p) ∧ mweight p = nI (WT p)) ∧
  ∀ p, p < P → (WL p).length ≤ 4 ∧ (WL p).Nodup ∧ (∀ h ∈ WL p, h < P) ∧ wantCount p = nI (WL p).length ∧ mwantsMany p = nI (WL p).length ∧ wantBits p = nI (bset (fun h => decide (h ∈ WL p)) P) ∧
    ∀ k, k < (WL p).length → wanted p k = nI ((WL p).getD k 0) ∧ mwants (4 * p + k) = nI ((WL p).getD k 0)
/-- how things are: hs whose hour each has (6: none), lf nights left, g the silk, c bits bt, n nights gone, w the law -/
def Rb (P : Nat) (hs lf bt : Nat → Nat) (g c n w : Nat) (has left bits : Nat → Int32) (bitCount given made gone law : Int32) (st : Nat → Int32) : Prop :=
  (∀ p, p < P → hs p ≤ 6 ∧ (hs p ≠ 6 → hs p < P) ∧ has p = (if hs p = 6 then -9 else nI (hs p)) ∧ st p = nI (hs p)) ∧
  (∀ p, p < P → ∀ q, q < P → hs p = hs q → hs p ≠ 6 → p = q) ∧
  (∀ p, P ≤ p → p < 6 → has p = -9 ∧ left p = 0) ∧
  (∀ p, p < P → lf p ≤ 9 ∧ left p = nI (lf p) ∧ st (6 + p) = nI (lf p)) ∧
  (g < 2 ^ P ∧ given = nI g ∧ st 12 = nI g ∧ ∀ p, p < P → g.testBit p = true → hs p ≠ 6 ∧ 0 < lf p) ∧
  (c ≤ 8 ∧ bitCount = nI c ∧ st 13 = nI c ∧ ∀ k, k < c → 1 ≤ bt k ∧ bt k ≤ 60 ∧ bits k = nI (bt k) ∧ st (14 + k) = nI (bt k)) ∧
  made = st 22 ∧ (n ≤ 999 ∧ gone = nI n ∧ st 23 = nI n) ∧ (w ≤ 2 ∧ law = nI w ∧ st 24 = nI w)
def Ra (P : Nat) (has left bits : Nat → Int32) (bitCount given made gone law : Int32) (st : Nat → Int32) : Prop :=
  ∃ (hs lf bt : Nat → Nat) (g c n w : Nat), Rb P hs lf bt g c n w has left bits bitCount given made gone law st
/-- what may be undone -/
def Ry (P : Nat) (next known : Int32) (has left bits : Nat → Nat → Int32) (bitCount given made gone law : Nat → Int32) (mknown : Int32) (was : Nat → Int32) : Prop :=
  ∃ n x, n ≤ 10 ∧ x < 10 ∧ known = nI n ∧ mknown = nI n ∧ next = nI x ∧ ∀ j, j < n →
    Ra P (has ((x + 9 - j) % 10)) (left ((x + 9 - j) % 10)) (bits ((x + 9 - j) % 10)) (bitCount ((x + 9 - j) % 10)) (given ((x + 9 - j) % 10)) (made ((x + 9 - j) % 10)) (gone ((x + 9 - j) % 10)) (law ((x + 9 - j) % 10)) (fun k => was (25 * (n - 1 - j) + k))
/-- the images -/
def Ri (P : Nat) (kept : Nat → Int32) (has left bits : Nat → Nat → Int32) (bitCount given made gone law : Nat → Int32) (isKept images : Nat → Int32) : Prop :=
  ∀ i, i < 2 → (kept i = 0 ∨ kept i = 1) ∧ isKept i = kept i ∧ (kept i = 1 → Ra P (has i) (left i) (bits i) (bitCount i) (given i) (made i) (gone i) (law i) (fun k => images (25 * i + k)))
/-- what was told -/
def Ro (P : Nat) (told : Int32) (tset twho thour : Nat → Int32) (many : Int32) (mtold : Nat → Int32) : Prop :=
  ∃ t, t ≤ 6 ∧ told = nI t ∧ many = nI t ∧ ∀ j, j < t → ∃ s p h, s < 2 ^ P ∧ p < P ∧ h < P ∧ s.testBit p = true ∧ s.testBit h = true ∧ tset j = nI s ∧ mtold (3 * j) = nI s ∧ twho j = nI p ∧ mtold (3 * j + 1) = nI p ∧ thour j = nI h ∧ mtold (3 * j + 2) = nI h
/-- behind the last person nobody can be served -/
def Rg (best : Nat → Nat → Int32) : Prop := ∀ f, f < 64 → best 6 f = 0
def Rel : XS → MS → Prop := fun σ μ => match σ, μ with
  | (x_told, x_marks, xs_length, _, _, _, _, _, _, _, _, _, _, _, _, xs_letters, xp_size, _, xp_weight, _, xp_wanted, xp_wantCount, xp_wantBits, xh_bitCount, xh_given, xh_made, xh_gone, xh_law, xh_has, xh_left, xh_bits, xy_next, xy_known, xyr_has, xyr_left, xyr_bits, xyr_bitCount, xyr_given, xyr_made, xyr_gone, xyr_law, x_kept, _, _, _, _, _, _, _, _, _, xg_best, _, _, x_toldSet, x_toldWho, x_toldHour, xm_has, xm_left, xm_bits, xm_bitCount, xm_given, xm_made, xm_gone, xm_law), (m_people, m_known, m_toldMany, m_trace, m_texted, _, _, _, _, _, _, _, _, _, _, m_weight, m_wants, m_wantsMany, m_st, m_was, m_images, m_isKept, m_told, m_text, _, _, _, _, _, _, _, _, _, _) => ∃ (P : Nat) (WL : Nat → List Nat) (WT : Nat → Nat), Rt xs_length xs_letters m_texted m_text ∧ Rp P WL WT xp_size xp_weight xp_wantCount xp_wantBits xp_wanted m_people m_weight m_wants m_wantsMany ∧ Ra P xh_has xh_left xh_bits xh_bitCount xh_given xh_made xh_gone xh_law m_st ∧ Ry P xy_next xy_known xyr_has xyr_left xyr_bits xyr_bitCount xyr_given xyr_made xyr_gone xyr_law m_known m_was ∧ Ri P x_kept xm_has xm_left xm_bits xm_bitCount xm_given xm_made xm_gone xm_law m_isKept m_images ∧ Ro P x_told x_toldSet x_toldWho x_toldHour m_toldMany m_told ∧ x_marks = m_trace ∧ Rg xg_best
theorem Rel_0 : Rel X0 M0 := by
  refine ⟨0, fun _ => [], fun _ => 0, ⟨0, by decide, rfl, rfl, fun i h => absurd h (by omega)⟩, ⟨by decide, rfl, rfl, fun p h => absurd h (by omega), fun p h => absurd h (by omega)⟩, ?_, ⟨0, 0, by decide, by decide, rfl, rfl, rfl, fun j h => absurd h (by omega)⟩, ?_, ⟨0, by decide, rfl, rfl, fun j h => absurd h (by omega)⟩, rfl, fun f _ => rfl⟩
  · exact ⟨fun _ => 6, fun _ => 0, fun _ => 0, 0, 0, 0, 0, fun p h => absurd h (by omega), fun p h => absurd h (by omega), fun p _ h => ⟨hasN_at p h, rfl⟩, fun p h => absurd h (by omega), ⟨by decide, rfl, rfl, fun p h => absurd h (by omega)⟩, ⟨by decide, rfl, rfl, fun k h => absurd h (by omega)⟩, rfl, ⟨by decide, rfl, rfl⟩, ⟨by decide, rfl, rfl⟩⟩
  · exact fun i _ => ⟨Or.inl rfl, rfl, fun h => absurd (show (0 : Int32) = 1 from h) (by decide)⟩

