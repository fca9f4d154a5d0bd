/-! 43.items: numbers, ends and items in the two readers -/
theorem takes_w {ρ : Type} (N : Nat) (L c s t n : Int32) (text : Nat → Int32) (x1 x2 : Int32) (k : Int32 → Int32 → Int32 → Int32 → Int32 → Int32 → Option ρ) : f_X8_takesNumber N L c s t n 1 text x1 x2 k = k 0 c s t n 1 := rfl
theorem takes_31 {ρ : Type} (N : Nat) (L c s t n : Int32) (text : Nat → Int32) (k : Int32 → Int32 → Int32 → Int32 → Int32 → Int32 → Option ρ) : f_X8_takesNumber_j31 c s t n L text k N = k 0 c s t n 1 := rfl
theorem takes_32 {ρ : Type} (N : Nat) (L c s t n : Int32) (text : Nat → Int32) (k : Int32 → Int32 → Int32 → Int32 → Int32 → Int32 → Option ρ) : f_X8_takesNumber_j32 c s t n L text k N 1 = f_X8_next N L c text (fun c1 s1 t1 n1 => k n c1 s1 t1 n1 0) := rfl
theorem Tk_num {t v t' n : Int32} (h : Tk t v t' n) : (∃ a, a ≤ 99 ∧ t = 257 ∧ v = nI a ∧ t' = 2 ∧ n = nI a) ∨ (¬ t = 257 ∧ ¬ t' = 2) := by
  rcases h with ⟨rfl, rfl⟩ | ⟨a, h1, rfl, rfl, rfl, rfl⟩ | ⟨rfl, rfl, rfl⟩ | ⟨rfl, rfl, rfl⟩ | ⟨rfl, rfl, rfl⟩ | ⟨rfl, rfl⟩ | ⟨q1, q2, q3, q4, q5, q6, rfl⟩
  · exact Or.inr ⟨by decide, by decide⟩
  · exact Or.inl ⟨a, h1, rfl, rfl, rfl, rfl⟩
  · exact Or.inr ⟨by decide, by decide⟩
  · exact Or.inr ⟨by decide, by decide⟩
  · exact Or.inr ⟨by decide, by decide⟩
  · exact Or.inr ⟨by decide, by decide⟩
  · exact Or.inr ⟨q2, by decide⟩
theorem Tk_end {t v t' n : Int32} (h : Tk t v t' n) : (t = 59 ∧ t' = 3) ∨ (¬ t = 59 ∧ ¬ t' = 3) := by
  rcases h with ⟨rfl, rfl⟩ | ⟨a, h1, rfl, rfl, rfl, rfl⟩ | ⟨rfl, rfl, rfl⟩ | ⟨rfl, rfl, rfl⟩ | ⟨rfl, rfl, rfl⟩ | ⟨rfl, rfl⟩ | ⟨q1, q2, q3, q4, q5, q6, rfl⟩
  · exact Or.inr ⟨by decide, by decide⟩
  · exact Or.inr ⟨by decide, by decide⟩
  · exact Or.inr ⟨by decide, by decide⟩
  · exact Or.inr ⟨by decide, by decide⟩
  · exact Or.inr ⟨by decide, by decide⟩
  · exact Or.inl ⟨rfl, rfl⟩
  · exact Or.inr ⟨q6, by decide⟩
theorem numX {N : Nat} (hN : 200000 ≤ N) {L : Nat} {c : Nat → Nat} {letters text : Nat → Int32} (T : TX L c letters text) {i : Nat} (hi : i ≤ L) (v x1 x2 : Int32) : ∃ (s j : Nat) (t v1 t' n : Int32), i ≤ j ∧ s ≤ j ∧ j ≤ L ∧ (∀ (ρ : Type) (k : Int32 → Int32 → Int32 → Int32 → Option ρ), f_X8_next N (nI L) (nI i) text k = k (nI j) (nI s) t' n) ∧
    ((∃ a, a ≤ 99 ∧ ¬ nI a < x1 ∧ ¬ x2 < nI a ∧ (∀ (ρ : Type) (k : Int32 → Int32 → Int32 → Int32 → Int32 → Option ρ), f_X4_stepToNumber N (nI L) (nI i) v letters x1 x2 k = k 1 (nI j) (nI s) 257 (nI a)) ∧ (∀ (ρ : Type) (k : Int32 → Int32 → Int32 → Int32 → Int32 → Int32 → Option ρ), f_X8_takesNumber N (nI L) (nI j) (nI s) t' n 0 text x1 x2 k = f_X8_next N (nI L) (nI j) text (fun c1 s1 t1 n1 => k (nI a) c1 s1 t1 n1 0)))
    ∨ ((∀ (ρ : Type) (k : Int32 → Int32 → Int32 → Int32 → Int32 → Option ρ), f_X4_stepToNumber N (nI L) (nI i) v letters x1 x2 k = k 0 (nI j) (nI s) t v1) ∧ (∀ (ρ : Type) (k : Int32 → Int32 → Int32 → Int32 → Int32 → Int32 → Option ρ), f_X8_takesNumber N (nI L) (nI j) (nI s) t' n 0 text x1 x2 k = k 0 (nI j) (nI s) t' n 1))) := by
  obtain ⟨s, j, t, v1, t', n, h1, h2, h3, h4, tk, e1, e2⟩ := tok hN T hi v
  refine ⟨s, j, t, v1, t', n, h1, h2, h3, e2, ?_⟩
  rcases Tk_num tk with ⟨a, ha, rfl, rfl, rfl, rfl⟩ | ⟨q1, q2⟩
  · by_cases w : nI a < x1 ∨ x2 < nI a
    · refine Or.inr ⟨fun ρ k => ?_, fun ρ k => ?_⟩
      · unfold f_X4_stepToNumber
        rw [e1, if_pos rfl, within_no N w, if_pos rfl]
      · unfold f_X8_takesNumber
        rw [if_pos rfl, if_pos rfl, in_w, within_no N w, if_pos rfl, takes_31]
    · rw [not_or] at w
      refine Or.inl ⟨a, ha, w.1, w.2, fun ρ k => ?_, fun ρ k => ?_⟩
      · unfold f_X4_stepToNumber
        rw [e1, if_pos rfl, within_yes N w.1 w.2, if_neg (by decide)]
      · unfold f_X8_takesNumber
        rw [if_pos rfl, if_pos rfl, in_w, within_yes N w.1 w.2, if_neg (by decide), takes_32]
  · refine Or.inr ⟨fun ρ k => ?_, fun ρ k => ?_⟩
    · unfold f_X4_stepToNumber
      rw [e1, if_neg q1]
    · unfold f_X8_takesNumber
      rw [if_pos rfl, if_neg q2, takes_31]
theorem endX {N : Nat} (hN : 200000 ≤ N) {L : Nat} {c : Nat → Nat} {letters text : Nat → Int32} (T : TX L c letters text) {i : Nat} (hi : i ≤ L) (v : Int32) : ∃ (s j : Nat) (t v1 t' n : Int32), i ≤ j ∧ s ≤ j ∧ j ≤ L ∧ (∀ (ρ : Type) (k : Int32 → Int32 → Int32 → Int32 → Option ρ), f_X8_next N (nI L) (nI i) text k = k (nI j) (nI s) t' n) ∧
    ((t = 59 ∧ t' = 3 ∧ ∀ (ρ : Type) (k : Int32 → Int32 → Int32 → Int32 → Int32 → Option ρ), f_X4_stepToEnd N (nI L) (nI i) v letters k = k 1 (nI j) (nI s) t v1)
    ∨ (¬ t' = 3 ∧ ∀ (ρ : Type) (k : Int32 → Int32 → Int32 → Int32 → Int32 → Option ρ), f_X4_stepToEnd N (nI L) (nI i) v letters k = k 0 (nI j) (nI s) t v1)) := by
  obtain ⟨s, j, t, v1, t', n, h1, h2, h3, h4, tk, e1, e2⟩ := tok hN T hi v
  refine ⟨s, j, t, v1, t', n, h1, h2, h3, e2, ?_⟩
  rcases Tk_end tk with ⟨q1, q2⟩ | ⟨q1, q2⟩
  · refine Or.inl ⟨q1, q2, fun ρ k => ?_⟩
    unfold f_X4_stepToEnd
    rw [e1, if_pos q1]
  · refine Or.inr ⟨q2, fun ρ k => ?_⟩
    unfold f_X4_stepToEnd
    rw [e1, if_neg q1]
theorem j119_w {ρ : Type} (N : Nat) (L : Int32) (text : Nat → Int32) (k : Int32 → Int32 → Int32 → Int32 → Int32 → Int32 → Int32 → (Nat → Int32) → (Nat → Int32) → (Nat → Int32) → (Nat → Int32) → Option ρ) (c s t n sp sl : Int32) (sw sn sm ss : Nat → Int32) : f_X8_readItem_j119 L text k N c s t n 1 sp sl sw sn sm ss = k c s t n 1 sp sl sw sn sm ss := rfl
theorem j119_b {ρ : Type} (N : Nat) (L : Int32) (text : Nat → Int32) (k : Int32 → Int32 → Int32 → Int32 → Int32 → Int32 → Int32 → (Nat → Int32) → (Nat → Int32) → (Nat → Int32) → (Nat → Int32) → Option ρ) (c s t n sp sl : Int32) (sw sn sm ss : Nat → Int32) (ht : ¬ t = 3) : f_X8_readItem_j119 L text k N c s t n 0 sp sl sw sn sm ss = k c s t n 1 sp sl sw sn sm ss := by
  unfold f_X8_readItem_j119
  rw [if_pos rfl, if_neg ht]; rfl
theorem j119_g {ρ : Type} (N : Nat) (L : Int32) (text : Nat → Int32) (k : Int32 → Int32 → Int32 → Int32 → Int32 → Int32 → Int32 → (Nat → Int32) → (Nat → Int32) → (Nat → Int32) → (Nat → Int32) → Option ρ) (c s n sp sl : Int32) (sw sn sm ss : Nat → Int32) : f_X8_readItem_j119 L text k N c s 3 n 0 sp sl sw sn sm ss = f_X8_next N L c text (fun c1 s1 t1 n1 => k c1 s1 t1 n1 0 sp sl sw sn sm ss) := rfl
/-- a person's item -/
theorem personI {N : Nat} (hN : 200000 ≤ N) {L : Nat} {c : Nat → Nat} {letters text : Nat → Int32} (T : TX L c letters text) {j s0 S : Nat} (hj : j ≤ L) (hs0 : s0 ≤ j) (hS : S ≤ 6) (v sl : Int32) (weight nights wc wb sw sn sm ss : Nat → Int32) :
    (∃ (s' : Nat) (p1 t1 v1 c2 t2 n2 sp2 : Int32) (sw2 sn2 sm2 : Nat → Int32), s' ≤ L ∧ (∀ (ρ : Type) (k : Int32 → Int32 → Int32 → Int32 → Int32 → Int32 → (Nat → Int32) → (Nat → Int32) → (Nat → Int32) → (Nat → Int32) → Option ρ), f_X4_readPerson N (nI L) (nI j) (nI s0) 112 v (nI S) letters weight nights wc wb k = k 0 p1 (nI s') t1 v1 (nI S) weight nights wc wb) ∧ (∀ (ρ : Type) (k : Int32 → Int32 → Int32 → Int32 → Int32 → Int32 → Int32 → (Nat → Int32) → (Nat → Int32) → (Nat → Int32) → (Nat → Int32) → Option ρ), f_X8_readItem N (nI L) (nI j) (nI s0) 1 112 0 (nI S) sl text sw sn sm ss k = k c2 (nI s') t2 n2 1 sp2 sl sw2 sn2 sm2 ss))
    ∨ (∃ (m g j' : Nat) (s1 v1 : Int32), 1 ≤ m ∧ m ≤ 60 ∧ 1 ≤ g ∧ g ≤ 9 ∧ S < 6 ∧ j ≤ j' ∧ j' ≤ L ∧ (∀ (ρ : Type) (k : Int32 → Int32 → Int32 → Int32 → Int32 → Int32 → (Nat → Int32) → (Nat → Int32) → (Nat → Int32) → (Nat → Int32) → Option ρ), f_X4_readPerson N (nI L) (nI j) (nI s0) 112 v (nI S) letters weight nights wc wb k = k 1 (nI j') s1 59 v1 (nI (S + 1)) (upd weight S (nI m)) (upd nights S (nI g)) (upd wc S 0) (upd wb S 0)) ∧ (∀ (ρ : Type) (k : Int32 → Int32 → Int32 → Int32 → Int32 → Int32 → Int32 → (Nat → Int32) → (Nat → Int32) → (Nat → Int32) → (Nat → Int32) → Option ρ), f_X8_readItem N (nI L) (nI j) (nI s0) 1 112 0 (nI S) sl text sw sn sm ss k = f_X8_next N (nI L) (nI j') text (fun c1 s1 t1 n1 => k c1 s1 t1 n1 0 (nI (S + 1)) sl (upd sw S (nI m)) (upd sn S (nI g)) (upd sm S 0) ss))) := by
  have hL := T.1
  by_cases h6 : S = 6
  · subst h6
    refine Or.inl ⟨s0, nI j, 112, v, nI j, 1, 112, nI 6, sw, sn, sm, by omega, fun ρ k => ?_, fun ρ k => ?_⟩
    · unfold f_X4_readPerson
      rw [if_pos (show (6 : Int32) ≤ nI 6 by decide)]
    · unfold f_X8_readItem f_X8_readItem_j60
      rw [if_pos rfl, if_pos (show (6 : Int32) ≤ nI 6 by decide), if_pos rfl, if_pos rfl]
  · have hS6 : S < 6 := by omega
    have hge : ¬ (6 : Int32) ≤ nI S := nI_ge (b := 6) hS6 (by decide)
    obtain ⟨s1, j1, t1, v1, t1', n1, a1, a2, a3, nx1, r1⟩ := numX hN T hj v 1 60
    have m0 : ∀ (ρ : Type) (k : Int32 → Int32 → Int32 → Int32 → Int32 → Int32 → Int32 → (Nat → Int32) → (Nat → Int32) → (Nat → Int32) → (Nat → Int32) → Option ρ), f_X8_readItem N (nI L) (nI j) (nI s0) 1 112 0 (nI S) sl text sw sn sm ss k = f_X8_readPerson N (nI L) (nI j1) (nI s1) t1' n1 0 (nI S) text sw sn sm (fun z_cursor_90 z_start_90 z_token_90 z_number_90 z_isWrong_90 z_saidPeople_90 z_saidWeight_90 z_saidNights_90 z_saidMany_90 => f_X8_readItem_j119 (nI L) text k N z_cursor_90 z_start_90 z_token_90 z_number_90 z_isWrong_90 z_saidPeople_90 sl z_saidWeight_90 z_saidNights_90 z_saidMany_90 ss) := fun ρ k => by
      unfold f_X8_readItem f_X8_readItem_j60
      rw [if_pos rfl, if_neg hge, if_pos rfl, if_neg (by decide), nx1, if_pos rfl]
    have hiv := ivi_n (i := S) (n := 6) hS6 (by decide)
    have hcl := cl (n := S) (by omega)
    rcases r1 with ⟨a, b1, b2, b3, x1, y1⟩ | ⟨x1, y1⟩
    · obtain ⟨s2, j2, t2, v2, t2', n2, c1, c2, c3, nx2, r2⟩ := numX hN T a3 (nI a) 1 9
      have ha : 1 ≤ a ∧ a ≤ 60 := by
        refine ⟨Nat.le_of_not_lt (fun q => b2 ?_), Nat.le_of_not_lt (fun q => b3 ?_)⟩
        · exact nI_lt (b := 1) q (by decide)
        · exact nI_lt (a := 60) q (by omega)
      rcases r2 with ⟨g, d1, d2, d3, x2, y2⟩ | ⟨x2, y2⟩
      · obtain ⟨s3, j3, t3, v3, t3', n3, f1, f2, f3, nx3, r3⟩ := endX hN T c3 (nI g)
        have hg : 1 ≤ g ∧ g ≤ 9 := by
          refine ⟨Nat.le_of_not_lt (fun q => d2 ?_), Nat.le_of_not_lt (fun q => d3 ?_)⟩
          · exact nI_lt (b := 1) q (by decide)
          · exact nI_lt (a := 9) q (by omega)
        rcases r3 with ⟨rfl, rfl, x3⟩ | ⟨q3, x3⟩
        · refine Or.inr ⟨a, g, j3, nI s3, v3, ha.1, ha.2, hg.1, hg.2, hS6, by omega, f3, fun ρ k => ?_, fun ρ k => ?_⟩
          · unfold f_X4_readPerson
            rw [if_neg hge, x1, if_neg (by decide), x2, if_neg (by decide), x3, if_neg (by decide)]
            unfold f_X2_addPerson f_X2_dropWants
            rw [if_pos (show nI S < (6 : Int32) from nI_lt (b := 6) hS6 (by decide)), hiv, ck_t, ck_t, ck_t, ck_t, hcl, nI_1]; rfl
          · rw [m0]
            unfold f_X8_readPerson
            rw [y1, nx2, hiv, ck_t, y2, nx3, ck_t, ck_t, hcl, nI_1]
            exact j119_g _ _ _ _ _ _ _ _ _ _ _ _ _
        · refine Or.inl ⟨s3, nI j3, t3, v3, nI j3, t3', n3, nI (S + 1), upd sw S (nI a), upd sn S (nI g), upd sm S 0, by omega, fun ρ k => ?_, fun ρ k => ?_⟩
          · unfold f_X4_readPerson
            rw [if_neg hge, x1, if_neg (by decide), x2, if_neg (by decide), x3, if_pos rfl]
          · rw [m0]
            unfold f_X8_readPerson
            rw [y1, nx2, hiv, ck_t, y2, nx3, ck_t, ck_t, hcl, nI_1]
            exact j119_b _ _ _ _ _ _ _ _ _ _ _ _ _ _ q3
      · refine Or.inl ⟨s2, nI j2, t2, v2, nI j2, t2', n2, nI (S + 1), upd sw S (nI a), upd sn S 0, upd sm S 0, by omega, fun ρ k => ?_, fun ρ k => ?_⟩
        · unfold f_X4_readPerson
          rw [if_neg hge, x1, if_neg (by decide), x2, if_pos rfl]
        · rw [m0]
          unfold f_X8_readPerson
          rw [y1, nx2, hiv, ck_t, y2, ck_t, ck_t, hcl, nI_1]
          exact j119_w _ _ _ _ _ _ _ _ _ _ _ _ _ _
    · refine Or.inl ⟨s1, nI j1, t1, v1, nI j1, t1', n1, nI (S + 1), upd sw S 0, upd sn S 0, upd sm S 0, by omega, fun ρ k => ?_, fun ρ k => ?_⟩
      · unfold f_X4_readPerson
        rw [if_neg hge, x1, if_pos rfl]
      · rw [m0]
        unfold f_X8_readPerson
        rw [y1, hiv, ck_t, takes_w, ck_t, ck_t, hcl, nI_1]
        exact j119_w _ _ _ _ _ _ _ _ _ _ _ _ _ _
/-- a law's item -/
def Rw (lt law sl : Int32) : Prop := (lt = 0 ∧ law = 0 ∧ sl = -1) ∨ (lt = 1 ∧ ∃ w, w ≤ 2 ∧ law = nI w ∧ sl = nI w)
theorem lawI {N : Nat} (hN : 200000 ≤ N) {L : Nat} {c : Nat → Nat} {letters text : Nat → Int32} (T : TX L c letters text) {j s0 : Nat} (hj : j ≤ L) (hs0 : s0 ≤ j) (v lt law sl sp : Int32) (hw : Rw lt law sl) (sw sn sm ss : Nat → Int32) :
    (∃ (s' : Nat) (p1 t1 v1 lt1 law1 c2 t2 n2 sl2 : Int32), s' ≤ L ∧ (∀ (ρ : Type) (k : Int32 → Int32 → Int32 → Int32 → Int32 → Int32 → Int32 → Option ρ), f_X4_readLaw N (nI L) (nI j) (nI s0) 108 v lt letters law k = k 0 p1 (nI s') t1 v1 lt1 law1) ∧ (∀ (ρ : Type) (k : Int32 → Int32 → Int32 → Int32 → Int32 → Int32 → Int32 → (Nat → Int32) → (Nat → Int32) → (Nat → Int32) → (Nat → Int32) → Option ρ), f_X8_readItem N (nI L) (nI j) (nI s0) 1 108 0 sp sl text sw sn sm ss k = k c2 (nI s') t2 n2 1 sp sl2 sw sn sm ss))
    ∨ (∃ (w j' : Nat) (s1 v1 : Int32), w ≤ 2 ∧ j ≤ j' ∧ j' ≤ L ∧ (∀ (ρ : Type) (k : Int32 → Int32 → Int32 → Int32 → Int32 → Int32 → Int32 → Option ρ), f_X4_readLaw N (nI L) (nI j) (nI s0) 108 v lt letters law k = k 1 (nI j') s1 59 v1 1 (nI w)) ∧ (∀ (ρ : Type) (k : Int32 → Int32 → Int32 → Int32 → Int32 → Int32 → Int32 → (Nat → Int32) → (Nat → Int32) → (Nat → Int32) → (Nat → Int32) → Option ρ), f_X8_readItem N (nI L) (nI j) (nI s0) 1 108 0 sp sl text sw sn sm ss k = f_X8_next N (nI L) (nI j') text (fun c1 s1 t1 n1 => k c1 s1 t1 n1 0 sp (nI w) sw sn sm ss))) := by
  have hL := T.1
  rcases hw with ⟨rfl, rfl, rfl⟩ | ⟨rfl, w, hw, rfl, rfl⟩
  · obtain ⟨s1, j1, t1, v1, t1', n1, a1, a2, a3, nx1, r1⟩ := numX hN T hj v 0 2
    have m0 : ∀ (ρ : Type) (k : Int32 → Int32 → Int32 → Int32 → Int32 → Int32 → Int32 → (Nat → Int32) → (Nat → Int32) → (Nat → Int32) → (Nat → Int32) → Option ρ), f_X8_readItem N (nI L) (nI j) (nI s0) 1 108 0 sp (-1) text sw sn sm ss k = f_X8_takesNumber N (nI L) (nI j1) (nI s1) t1' n1 0 text 0 2 (fun r113 z_cursor_113 z_start_113 z_token_113 z_number_113 z_isWrong_113 => f_X8_readItem_j119 (nI L) text k N z_cursor_113 z_start_113 z_token_113 z_number_113 z_isWrong_113 sp r113 sw sn sm ss) := fun ρ k => by
      unfold f_X8_readItem f_X8_readItem_j60
      rw [if_neg (by decide), if_pos rfl, if_neg (by decide), if_pos rfl, if_neg (by decide), nx1, if_neg (by decide), if_neg (by decide)]
    rcases r1 with ⟨a, b1, b2, b3, x1, y1⟩ | ⟨x1, y1⟩
    · obtain ⟨s3, j3, t3, v3, t3', n3, f1, f2, f3, nx3, r3⟩ := endX hN T a3 (nI a)
      have ha : a ≤ 2 := Nat.le_of_not_lt (fun q => b3 (nI_lt (a := 2) q (by omega)))
      rcases r3 with ⟨rfl, rfl, x3⟩ | ⟨q3, x3⟩
      · refine Or.inr ⟨a, j3, nI s3, v3, ha, by omega, f3, fun ρ k => ?_, fun ρ k => ?_⟩
        · unfold f_X4_readLaw
          rw [if_pos rfl, x1, if_neg (by decide), x3, ck_z1]
        · rw [m0, y1, nx3, j119_g]
      · refine Or.inl ⟨s3, nI j3, t3, v3, 1, nI a, nI j3, t3', n3, nI a, by omega, fun ρ k => ?_, fun ρ k => ?_⟩
        · unfold f_X4_readLaw
          rw [if_pos rfl, x1, if_neg (by decide), x3, ck_z0]
        · rw [m0, y1, nx3, j119_b _ _ _ _ _ _ _ _ _ _ _ _ _ _ q3]
    · refine Or.inl ⟨s1, nI j1, t1, v1, 0, 0, nI j1, t1', n1, 0, by omega, fun ρ k => ?_, fun ρ k => ?_⟩
      · unfold f_X4_readLaw
        rw [if_pos rfl, x1, if_pos rfl]
      · rw [m0, y1, j119_w]
  · refine Or.inl ⟨s0, nI j, 108, v, 1, nI w, nI j, 1, 108, nI w, by omega, fun ρ k => ?_, fun ρ k => ?_⟩
    · unfold f_X4_readLaw
      rw [if_neg (by decide)]
    · unfold f_X8_readItem f_X8_readItem_j60
      rw [if_neg (by decide), if_pos rfl, if_pos (nI_pos' (by omega)), if_pos rfl, if_pos rfl]

