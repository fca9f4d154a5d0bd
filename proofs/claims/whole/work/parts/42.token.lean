/-! 42.token: the two readers step alike -/
abbrev TX (L : Nat) (c : Nat → Nat) (letters text : Nat → Int32) : Prop := L ≤ 150 ∧ ∀ i, i < L → letters i = nI (c i) ∧ text i = nI (c i) ∧ c i ≤ 255
def fig (a : Nat) : Bool := decide (48 ≤ a) && decide (a ≤ 57)
theorem letterAt_in {ρ : Type} (N : Nat) {L i : Nat} {c : Nat → Nat} {letters text : Nat → Int32} (T : TX L c letters text) (hi : i < L) (k : Int32 → Option ρ) : f_X8_letterAt N (nI L) text (nI i) k = k (nI (c i)) := by
  have hL := T.1
  unfold f_X8_letterAt
  rw [if_neg (nI_ge hi (by omega)), ivi_n (show i < 150 by omega) (by decide), ck_t, cl (by omega), (T.2 i hi).2.1]
theorem letterAt_out {ρ : Type} (N : Nat) {L : Nat} (text : Nat → Int32) (hL : L ≤ 150) (k : Int32 → Option ρ) : f_X8_letterAt N (nI L) text (nI L) k = k (-1) := by
  unfold f_X8_letterAt
  rw [if_pos (nI_le (Nat.le_refl _) (by omega))]
theorem isDigit_e {ρ : Type} (N : Nat) {a : Nat} (ha : a ≤ 255) (k : Int32 → Option ρ) : f_X4_isDigit N (nI a) k = k (if fig a then 1 else 0) := by
  unfold f_X4_isDigit fig
  by_cases h1 : 48 ≤ a
  · rw [if_neg (show ¬ nI a < (48 : Int32) from nI_nlt (b := 48) h1 (by omega))]
    by_cases h2 : a ≤ 57
    · rw [if_neg (show ¬ (57 : Int32) < nI a from nI_nlt (a := 57) h2 (by decide)), decide_eq_true h1, decide_eq_true h2]; rfl
    · rw [if_pos (show (57 : Int32) < nI a from nI_lt (a := 57) (by omega) (by omega)), decide_eq_false h2, Bool.and_false]; rfl
  · rw [if_pos (show nI a < (48 : Int32) from nI_lt (b := 48) (by omega) (by decide)), decide_eq_false h1]; rfl
theorem isFigure_e {ρ : Type} (N : Nat) {a : Nat} (ha : a ≤ 255) (k : Int32 → Option ρ) : f_X8_isFigure N (nI a) k = k (if fig a then 1 else 0) := by
  unfold f_X8_isFigure fig
  rw [in_w]
  by_cases h1 : 48 ≤ a
  · by_cases h2 : a ≤ 57
    · rw [within_yes N (show ¬ nI a < (48 : Int32) from nI_nlt (b := 48) h1 (by omega)) (show ¬ (57 : Int32) < nI a from nI_nlt (a := 57) h2 (by decide)), decide_eq_true h1, decide_eq_true h2]; rfl
    · rw [within_no N (Or.inr (show (57 : Int32) < nI a from nI_lt (a := 57) (by omega) (by omega))), decide_eq_false h2, Bool.and_false]; rfl
  · rw [within_no N (Or.inl (show nI a < (48 : Int32) from nI_lt (b := 48) (by omega) (by decide))), decide_eq_false h1]; rfl
theorem isFigure_m {ρ : Type} (N : Nat) (k : Int32 → Option ρ) : f_X8_isFigure N (-1) k = k 0 := by
  unfold f_X8_isFigure
  rw [in_w, within_no N (Or.inl (by decide))]; rfl
theorem skip {N : Nat} {L : Nat} {c : Nat → Nat} {letters text : Nat → Int32} (T : TX L c letters text) : ∀ d i, i + d = L → ∃ j, i ≤ j ∧ j ≤ L ∧ (∀ (ρ : Type) (k : Int32 → Option ρ) (n : Nat), d < n → f_X4_step_l0 (nI L) letters k n (nI i) = k (nI j)) ∧ (∀ (ρ : Type) (k : Int32 → Option ρ) (n : Nat), d < n → f_X8_next_l0 (nI L) text k N n (nI i) = k (nI j)) := by
  have hL := T.1
  intro d
  induction d with
  | zero =>
    intro i h
    obtain rfl : i = L := by omega
    refine ⟨i, Nat.le_refl _, Nat.le_refl _, fun ρ k n hn => ?_, fun ρ k n hn => ?_⟩
    · obtain ⟨n, rfl⟩ := succ_of hn
      rw [f_X4_step_l0, if_pos (nI_le (Nat.le_refl _) (by omega))]
    · obtain ⟨n, rfl⟩ := succ_of hn
      rw [f_X8_next_l0, letterAt_out N text hL, if_neg (by decide)]
  | succ d ih =>
    intro i h
    have hi : i < L := by omega
    obtain ⟨t1, t2, t3⟩ := T.2 i hi
    by_cases e : c i = 32
    · obtain ⟨j, h1, h2, e1, e2⟩ := ih (i + 1) (by omega)
      refine ⟨j, by omega, h2, fun ρ k n hn => ?_, fun ρ k n hn => ?_⟩
      · obtain ⟨n, rfl⟩ := succ_of hn
        rw [f_X4_step_l0, if_neg (nI_ge hi (by omega)), ivi_n (show i < 150 by omega) (by decide), ck_t, cl (by omega), t1, e, if_pos (show nI 32 = (32 : Int32) from rfl), nI_1]
        exact e1 ρ k n (by omega)
      · obtain ⟨n, rfl⟩ := succ_of hn
        rw [f_X8_next_l0, letterAt_in N T hi, e, if_pos (show nI 32 = (32 : Int32) from rfl), nI_1]
        exact e2 ρ k n (by omega)
    · have hne : ¬ nI (c i) = (32 : Int32) := fun q => e (inj_n (b := 32) (by omega) (by decide) q)
      refine ⟨i, Nat.le_refl _, by omega, fun ρ k n hn => ?_, fun ρ k n hn => ?_⟩
      · obtain ⟨n, rfl⟩ := succ_of hn
        rw [f_X4_step_l0, if_neg (nI_ge hi (by omega)), ivi_n (show i < 150 by omega) (by decide), ck_t, cl (by omega), t1, if_neg hne]
      · obtain ⟨n, rfl⟩ := succ_of hn
        rw [f_X8_next_l0, letterAt_in N T hi, if_neg hne]
theorem digs {N : Nat} {L : Nat} {c : Nat → Nat} {letters text : Nat → Int32} (T : TX L c letters text) : ∀ d i v, i + d = L → v ≤ 999 → ∃ j v', i ≤ j ∧ j ≤ L ∧ v' ≤ 999 ∧ (i < L → fig (c i) = true → i < j) ∧ (∀ (ρ : Type) (k : Int32 → Int32 → Option ρ) (n : Nat), d < n → f_X4_readNumber_l5 (nI L) letters k N n (nI i) (nI v) = k (nI j) (nI v')) ∧ (∀ (ρ : Type) (k : Int32 → Int32 → Option ρ) (n : Nat), d < n → f_X8_next_l67 (nI L) text k N n (nI i) (nI v) = k (nI j) (nI v')) := by
  have hL := T.1
  intro d
  induction d with
  | zero =>
    intro i v h hv
    obtain rfl : i = L := by omega
    refine ⟨i, v, Nat.le_refl _, Nat.le_refl _, hv, fun q => absurd q (by omega), fun ρ k n hn => ?_, fun ρ k n hn => ?_⟩
    · obtain ⟨n, rfl⟩ := succ_of hn
      rw [f_X4_readNumber_l5, if_pos (nI_le (Nat.le_refl _) (by omega))]
    · obtain ⟨n, rfl⟩ := succ_of hn
      rw [f_X8_next_l67, letterAt_out N text hL, isFigure_m, if_pos rfl]
  | succ d ih =>
    intro i v h hv
    have hi : i < L := by omega
    obtain ⟨t1, t2, t3⟩ := T.2 i hi
    cases e : fig (c i) with
    | false =>
      refine ⟨i, v, Nat.le_refl _, by omega, hv, fun _ q => absurd q (by decide), fun ρ k n hn => ?_, fun ρ k n hn => ?_⟩
      · obtain ⟨n, rfl⟩ := succ_of hn
        rw [f_X4_readNumber_l5, if_neg (nI_ge hi (by omega)), ivi_n (show i < 150 by omega) (by decide), ck_t, cl (by omega), t1, isDigit_e N t3, b01, e, if_neg (by decide)]
      · obtain ⟨n, rfl⟩ := succ_of hn
        rw [f_X8_next_l67, letterAt_in N T hi, isFigure_e N t3, b01, e, if_neg (by decide)]
    | true =>
      have hf : 48 ≤ c i ∧ c i ≤ 57 := by
        unfold fig at e
        rw [Bool.and_eq_true, decide_eq_true_eq, decide_eq_true_eq] at e
        exact e
      by_cases h9 : v ≤ 99
      · obtain ⟨j, v', h1, h2, h3, h4, e1, e2⟩ := ih (i + 1) (10 * v + c i - 48) (by omega) (by omega)
        refine ⟨j, v', by omega, h2, h3, fun _ _ => by omega, fun ρ k n hn => ?_, fun ρ k n hn => ?_⟩
        · obtain ⟨n, rfl⟩ := succ_of hn
          rw [f_X4_readNumber_l5, if_neg (nI_ge hi (by omega)), ivi_n (show i < 150 by omega) (by decide), ck_t, cl (by omega), t1, isDigit_e N t3, b01, e, if_pos rfl, if_neg (show ¬ (99 : Int32) < nI v from nI_nlt (a := 99) h9 (by decide)), ck_t]
          unfold f_X4_readNumber_j64
          rw [show nI v * (10 : Int32) = nI (v * 10) from pk_mul v 10, nI_add, show nI (v * 10 + c i) - 48 = nI (v * 10 + c i - 48) from pk_sub (b := 48) (by omega), nI_1, Nat.mul_comm v 10]
          exact e1 ρ k n (by omega)
        · obtain ⟨n, rfl⟩ := succ_of hn
          rw [f_X8_next_l67, letterAt_in N T hi, isFigure_e N t3, b01, e, if_pos rfl, if_pos (show nI v ≤ (99 : Int32) from nI_le (b := 99) h9 (by decide)), letterAt_in N T hi]
          unfold f_X8_next_j117
          rw [show (10 : Int32) * nI v = nI (10 * v) from pk_mul 10 v, nI_add, show nI (10 * v + c i) - 48 = nI (10 * v + c i - 48) from pk_sub (b := 48) (by omega), nI_1]
          exact e2 ρ k n (by omega)
      · obtain ⟨j, v', h1, h2, h3, h4, e1, e2⟩ := ih (i + 1) v (by omega) hv
        refine ⟨j, v', by omega, h2, h3, fun _ _ => by omega, fun ρ k n hn => ?_, fun ρ k n hn => ?_⟩
        · obtain ⟨n, rfl⟩ := succ_of hn
          rw [f_X4_readNumber_l5, if_neg (nI_ge hi (by omega)), ivi_n (show i < 150 by omega) (by decide), ck_t, cl (by omega), t1, isDigit_e N t3, b01, e, if_pos rfl, if_pos (show (99 : Int32) < nI v from nI_lt (a := 99) (by omega) (by omega))]
          unfold f_X4_readNumber_j64
          rw [nI_1]
          exact e1 ρ k n (by omega)
        · obtain ⟨n, rfl⟩ := succ_of hn
          rw [f_X8_next_l67, letterAt_in N T hi, isFigure_e N t3, b01, e, if_pos rfl, if_neg (show ¬ nI v ≤ (99 : Int32) from nI_ge (a := 99) (by omega) (by omega))]
          unfold f_X8_next_j117
          rw [nI_1]
          exact e2 ρ k n (by omega)
/-- one token, as the two have it -/
def Tk (t v t' n : Int32) : Prop :=
  (t = 256 ∧ t' = 0) ∨ (∃ a, a ≤ 99 ∧ t = 257 ∧ v = nI a ∧ t' = 2 ∧ n = nI a) ∨ (t = 112 ∧ t' = 1 ∧ n = 112) ∨ (t = 119 ∧ t' = 1 ∧ n = 119) ∨ (t = 108 ∧ t' = 1 ∧ n = 108) ∨ (t = 59 ∧ t' = 3) ∨ (¬ t = 256 ∧ ¬ t = 257 ∧ ¬ t = 112 ∧ ¬ t = 119 ∧ ¬ t = 108 ∧ ¬ t = 59 ∧ t' = 4)
theorem tok {N : Nat} (hN : 200000 ≤ N) {L : Nat} {c : Nat → Nat} {letters text : Nat → Int32} (T : TX L c letters text) {i : Nat} (hi : i ≤ L) (v : Int32) : ∃ (s j : Nat) (t v' t' n : Int32), i ≤ j ∧ s ≤ j ∧ j ≤ L ∧ (¬ t = 256 → i < j) ∧ Tk t v' t' n ∧ (∀ (ρ : Type) (k : Int32 → Int32 → Int32 → Int32 → Option ρ), f_X4_step N (nI L) (nI i) v letters k = k (nI j) (nI s) t v') ∧ (∀ (ρ : Type) (k : Int32 → Int32 → Int32 → Int32 → Option ρ), f_X8_next N (nI L) (nI i) text k = k (nI j) (nI s) t' n) := by
  have hL := T.1
  obtain ⟨s, h1, h2, e1, e2⟩ := skip (N := N) T (L - i) i (by omega)
  have x0 : ∀ (ρ : Type) (k : Int32 → Int32 → Int32 → Int32 → Option ρ), f_X4_step N (nI L) (nI i) v letters k = f_X4_step_e38 v (nI L) letters k N (nI s) := fun ρ k => e1 ρ _ N (by omega)
  have y0 : ∀ (ρ : Type) (k : Int32 → Int32 → Int32 → Int32 → Option ρ), f_X8_next N (nI L) (nI i) text k = f_X8_next_e26 (nI L) text k N (nI s) := fun ρ k => e2 ρ _ N (by omega)
  by_cases hs : s = L
  · refine ⟨s, s, 256, v, 0, 0, by omega, by omega, by omega, fun q => absurd rfl q, Or.inl ⟨rfl, rfl⟩, fun ρ k => ?_, fun ρ k => ?_⟩
    · rw [x0]
      unfold f_X4_step_e38
      rw [if_neg (nI_nlt (by omega) (by omega))]
    · rw [y0]
      unfold f_X8_next_e26
      rw [hs, letterAt_out N text hL, if_neg (by decide)]
  · have hsL : s < L := by omega
    obtain ⟨t1, t2, t3⟩ := T.2 s hsL
    have x1 : ∀ (ρ : Type) (k : Int32 → Int32 → Int32 → Int32 → Option ρ), f_X4_step N (nI L) (nI i) v letters k = if fig (c s) then (f_X4_readNumber N (nI L) (nI s) (nI s) letters (fun r84 z_place_84 z_value_84 => if r84 = 0 then (f_X4_step_j99 (nI s) z_place_84 z_value_84 k 258) else (f_X4_step_j99 (nI s) z_place_84 z_value_84 k 257))) else k (nI (s + 1)) (nI s) (nI (c s)) v := fun ρ k => by
      rw [x0]
      unfold f_X4_step_e38
      rw [if_pos (nI_lt hsL (by omega)), ivi_n (show s < 150 by omega) (by decide), ck_t, cl (by omega), t1, isDigit_e N t3, b01, ck_t, nI_1]
    have y1 : ∀ (ρ : Type) (k : Int32 → Int32 → Int32 → Int32 → Option ρ), f_X8_next N (nI L) (nI i) text k = if fig (c s) then (f_X8_next_l67 (nI L) text (fun z_cursor_e133 z_number_e133 => f_X8_next_e133 (nI s) (nI (c s)) k z_cursor_e133 z_number_e133) N N (nI s) 0) else (if nI (c s) = 112 then (f_X8_next_j192 (nI s) (nI (c s)) k ) else (if nI (c s) = 119 then (f_X8_next_j192 (nI s) (nI (c s)) k ) else (if nI (c s) = 108 then (f_X8_next_j192 (nI s) (nI (c s)) k ) else (if nI (c s) = 59 then (f_X8_next_j207 (nI s) (nI (c s)) k 3) else (f_X8_next_j207 (nI s) (nI (c s)) k 4))))) := fun ρ k => by
      rw [y0]
      unfold f_X8_next_e26
      rw [letterAt_in N T hsL, if_pos (nI_pos' (by omega)), isFigure_e N t3, b01]
    cases ef : fig (c s) with
    | true =>
      obtain ⟨j, w, d1, d2, d3, d4, z1, z2⟩ := digs (N := N) T (L - s) s 0 (by omega) (by omega)
      have d5 := d4 hsL ef
      have x2 : ∀ (ρ : Type) (k : Int32 → Int32 → Int32 → Option ρ), f_X4_readNumber N (nI L) (nI s) (nI s) letters k = f_X4_readNumber_e77 (nI s) letters k (nI j) (nI w) := fun ρ k => z1 ρ _ N (by omega)
      have y2 : ∀ (ρ : Type) (k : Int32 → Int32 → Int32 → Int32 → Option ρ), f_X8_next N (nI L) (nI i) text k = f_X8_next_e133 (nI s) (nI (c s)) k (nI j) (nI w) := fun ρ k => by
        rw [y1, ef, if_pos rfl]; exact z2 ρ _ N (by omega)
      have hz : (nI j - nI s ≤ (1 : Int32)) ↔ j - s ≤ 1 := by
        rw [pk_sub (by omega)]
        exact nI_leI (b := 1) (by omega) (by decide)
      have h48 : (nI (c s) = (48 : Int32)) ↔ c s = 48 := nI_eq (b := 48) (by omega) (by decide)
      by_cases good : w ≤ 99 ∧ (c s = 48 → j - s ≤ 1)
      · refine ⟨s, j, 257, nI w, 2, nI w, by omega, by omega, d2, fun _ => by omega, Or.inr (Or.inl ⟨w, good.1, rfl, rfl, rfl, rfl⟩), fun ρ k => ?_, fun ρ k => ?_⟩
        · rw [x1, ef, if_pos rfl, x2]
          unfold f_X4_readNumber_e77 f_X4_readNumber_j108 f_X4_readNumber_j109 f_X4_step_j99
          rw [ivi_n (show s < 150 by omega) (by decide), ck_t, cl (by omega), t1]
          by_cases q : c s = 48
          · rw [if_pos (h48.mpr q), if_pos (hz.mpr (good.2 q)), if_neg (show ¬ (99 : Int32) < nI w from nI_nlt (a := 99) good.1 (by decide))]; rfl
          · rw [if_neg (fun q' => q (h48.mp q')), if_neg (show ¬ (99 : Int32) < nI w from nI_nlt (a := 99) good.1 (by decide))]; rfl
        · rw [y2]
          unfold f_X8_next_e133 f_X8_next_j166 f_X8_next_j167
          rw [if_neg (show ¬ (99 : Int32) < nI w from nI_nlt (a := 99) good.1 (by decide))]
          by_cases q : c s = 48
          · rw [if_pos (h48.mpr q), if_pos (hz.mpr (good.2 q))]
          · rw [if_neg (fun q' => q (h48.mp q'))]
      · refine ⟨s, j, 258, nI w, 4, nI w, by omega, by omega, d2, fun _ => by omega, Or.inr (Or.inr (Or.inr (Or.inr (Or.inr (Or.inr ⟨by decide, by decide, by decide, by decide, by decide, by decide, rfl⟩))))), fun ρ k => ?_, fun ρ k => ?_⟩
        · rw [x1, ef, if_pos rfl, x2]
          unfold f_X4_readNumber_e77 f_X4_readNumber_j108 f_X4_readNumber_j109 f_X4_step_j99
          rw [ivi_n (show s < 150 by omega) (by decide), ck_t, cl (by omega), t1]
          by_cases h9 : w ≤ 99
          · have q : c s = 48 ∧ ¬ j - s ≤ 1 := by omega
            rw [if_pos (h48.mpr q.1), if_neg (fun q' => q.2 (hz.mp q')), if_neg (show ¬ (99 : Int32) < nI w from nI_nlt (a := 99) h9 (by decide))]; rfl
          · have h9' : (99 : Int32) < nI w := nI_lt (a := 99) (by omega) (by omega)
            simp only [if_pos h9', ite_self]; rfl
        · rw [y2]
          unfold f_X8_next_e133 f_X8_next_j166 f_X8_next_j162 f_X8_next_j167
          by_cases h9 : w ≤ 99
          · have q : c s = 48 ∧ ¬ j - s ≤ 1 := by omega
            rw [if_neg (show ¬ (99 : Int32) < nI w from nI_nlt (a := 99) h9 (by decide)), if_pos (h48.mpr q.1), if_neg (fun q' => q.2 (hz.mp q'))]
          · rw [if_pos (show (99 : Int32) < nI w from nI_lt (a := 99) (by omega) (by omega))]
    | false =>
      have x2 : ∀ (ρ : Type) (k : Int32 → Int32 → Int32 → Int32 → Option ρ), f_X4_step N (nI L) (nI i) v letters k = k (nI (s + 1)) (nI s) (nI (c s)) v := fun ρ k => by rw [x1, ef]; rfl
      have hne : ∀ b : Nat, b < 2 ^ 31 → c s ≠ b → ¬ nI (c s) = nI b := fun b hb q q' => q (inj_n (by omega) hb q')
      have fin : ∀ t' : Int32, Tk (nI (c s)) v t' (nI (c s)) → (∀ (ρ : Type) (k : Int32 → Int32 → Int32 → Int32 → Option ρ), f_X8_next N (nI L) (nI i) text k = k (nI (s + 1)) (nI s) t' (nI (c s))) → ∃ (s j : Nat) (t v' t' n : Int32), i ≤ j ∧ s ≤ j ∧ j ≤ L ∧ (¬ t = 256 → i < j) ∧ Tk t v' t' n ∧ (∀ (ρ : Type) (k : Int32 → Int32 → Int32 → Int32 → Option ρ), f_X4_step N (nI L) (nI i) v letters k = k (nI j) (nI s) t v') ∧ (∀ (ρ : Type) (k : Int32 → Int32 → Int32 → Int32 → Option ρ), f_X8_next N (nI L) (nI i) text k = k (nI j) (nI s) t' n) :=
        fun t' q1 q2 => ⟨s, s + 1, nI (c s), v, t', nI (c s), by omega, by omega, by omega, fun _ => by omega, q1, x2, q2⟩
      by_cases a1 : c s = 112
      · refine fin 1 (Or.inr (Or.inr (Or.inl ⟨by rw [a1]; rfl, rfl, by rw [a1]; rfl⟩))) (fun ρ k => ?_)
        rw [y1, ef, if_neg (by decide), if_pos (by rw [a1]; rfl)]
        unfold f_X8_next_j192 f_X8_next_j207
        rw [nI_1]
      have n1 : ¬ nI (c s) = (112 : Int32) := hne 112 (by decide) a1
      by_cases a2 : c s = 119
      · refine fin 1 (Or.inr (Or.inr (Or.inr (Or.inl ⟨by rw [a2]; rfl, rfl, by rw [a2]; rfl⟩)))) (fun ρ k => ?_)
        rw [y1, ef, if_neg (by decide), if_neg n1, if_pos (by rw [a2]; rfl)]
        unfold f_X8_next_j192 f_X8_next_j207
        rw [nI_1]
      have n2 : ¬ nI (c s) = (119 : Int32) := hne 119 (by decide) a2
      by_cases a3 : c s = 108
      · refine fin 1 (Or.inr (Or.inr (Or.inr (Or.inr (Or.inl ⟨by rw [a3]; rfl, rfl, by rw [a3]; rfl⟩))))) (fun ρ k => ?_)
        rw [y1, ef, if_neg (by decide), if_neg n1, if_neg n2, if_pos (by rw [a3]; rfl)]
        unfold f_X8_next_j192 f_X8_next_j207
        rw [nI_1]
      have n3 : ¬ nI (c s) = (108 : Int32) := hne 108 (by decide) a3
      by_cases a4 : c s = 59
      · refine fin 3 (Or.inr (Or.inr (Or.inr (Or.inr (Or.inr (Or.inl ⟨by rw [a4]; rfl, rfl⟩)))))) (fun ρ k => ?_)
        rw [y1, ef, if_neg (by decide), if_neg n1, if_neg n2, if_neg n3, if_pos (by rw [a4]; rfl)]
        unfold f_X8_next_j207
        rw [nI_1]
      have n4 : ¬ nI (c s) = (59 : Int32) := hne 59 (by decide) a4
      refine fin 4 (Or.inr (Or.inr (Or.inr (Or.inr (Or.inr (Or.inr ⟨hne 256 (by decide) (by omega), hne 257 (by decide) (by omega), n1, n2, n3, n4, rfl⟩)))))) (fun ρ k => ?_)
      rw [y1, ef, if_neg (by decide), if_neg n1, if_neg n2, if_neg n3, if_neg n4]
      unfold f_X8_next_j207
      rw [nI_1]

