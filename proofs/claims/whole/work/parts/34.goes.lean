/-! 34.goes: the reference's night -/
abbrev HM (P : Nat) (WL : Nat → List Nat) (WT : Nat → Nat) (wm ws weight : Nat → Int32) : Prop := (P ≤ 6) ∧ (∀ p, p < P → (WL p).length ≤ 4) ∧ (∀ p, p < P → ∀ h, h ∈ WL p → h < P) ∧ (∀ p, p < P → wm p = nI (WL p).length) ∧ (∀ p, p < P → ∀ k, k < (WL p).length → ws (4 * p + k) = nI ((WL p).getD k 0)) ∧ (∀ p, p < P → WT p ≤ 60) ∧ (∀ p, p < P → weight p = nI (WT p))
theorem HM.hP {P : Nat} {WL : Nat → List Nat} {WT : Nat → Nat} {wm ws weight : Nat → Int32} (zz : HM P WL WT wm ws weight) : P ≤ 6 := zz.1
theorem HM.l4 {P : Nat} {WL : Nat → List Nat} {WT : Nat → Nat} {wm ws weight : Nat → Int32} (zz : HM P WL WT wm ws weight) : ∀ p, p < P → (WL p).length ≤ 4 := zz.2.1
theorem HM.lP {P : Nat} {WL : Nat → List Nat} {WT : Nat → Nat} {wm ws weight : Nat → Int32} (zz : HM P WL WT wm ws weight) : ∀ p, p < P → ∀ h, h ∈ WL p → h < P := zz.2.2.1
theorem HM.cw {P : Nat} {WL : Nat → List Nat} {WT : Nat → Nat} {wm ws weight : Nat → Int32} (zz : HM P WL WT wm ws weight) : ∀ p, p < P → wm p = nI (WL p).length := zz.2.2.2.1
theorem HM.wd {P : Nat} {WL : Nat → List Nat} {WT : Nat → Nat} {wm ws weight : Nat → Int32} (zz : HM P WL WT wm ws weight) : ∀ p, p < P → ∀ k, k < (WL p).length → ws (4 * p + k) = nI ((WL p).getD k 0) := zz.2.2.2.2.1
theorem HM.w60 {P : Nat} {WL : Nat → List Nat} {WT : Nat → Nat} {wm ws weight : Nat → Int32} (zz : HM P WL WT wm ws weight) : ∀ p, p < P → WT p ≤ 60 := zz.2.2.2.2.2.1
theorem HM.wt {P : Nat} {WL : Nat → List Nat} {WT : Nat → Nat} {wm ws weight : Nat → Int32} (zz : HM P WL WT wm ws weight) : ∀ p, p < P → weight p = nI (WT p) := zz.2.2.2.2.2.2
theorem dM_le {P : Nat} {WT : Nat → Nat} {w : Nat} {l : List Nat} {hp k : Nat} (hP : P ≤ 6) (h60 : ∀ p, p < P → WT p ≤ 60) (hl : ∀ h, h ∈ l → h < P) (hhp : hp < P) (hk : k < l.length) : dM WT w l hp k ≤ 60 := by
  have h1 := hl _ (getD_mem hk)
  unfold dM
  split
  · omega
  · split
    · exact absd_le (h60 _ h1) (h60 _ hhp)
    · omega
theorem absM : ∀ a, a < 61 → ∀ b, b < 61 → (0 ≤ nI a - nI b ∧ nI a - nI b = nI (absd a b)) ∨ (¬ 0 ≤ nI a - nI b ∧ -(nI a - nI b) = nI (absd a b)) := by decide +kernel
theorem enc_neg {a : Nat} (h : a ≤ 6) : enc a < (0 : Int32) ↔ a = 6 := by
  by_cases e : a = 6
  · subst e; exact ⟨fun _ => rfl, fun _ => by decide⟩
  · rw [enc_n e]; exact ⟨fun q => absurd q (nI_pos (by omega)), fun q => absurd q e⟩
theorem whoGave_l5 {ρ : Type} (N : Nat) {P s h : Nat} (hP : P ≤ 6) (hs1 : s < 2 ^ P) (hh : h < P) {hs : Nat → Nat} {gave : Nat → Int32} (hg : ∀ p, p < P → s.testBit p = true → gave p = nI (hs p) ∧ hs p < P) (k : Int32 → Option ρ) : ∀ (d i n : Nat), i + d = P → d < n → f_X8_whoGave_l5 (nI s) (nI h) (nI P) gave k N n (enc (who hs s h i)) (nI i) = k (enc (who hs s h P)) := by
  have h64 := two_lt hP hs1
  intro d
  induction d with
  | zero =>
    intro i n h1 hn
    obtain ⟨n, rfl⟩ := succ_of hn
    obtain rfl : i = P := by omega
    rw [f_X8_whoGave_l5, if_pos (nI_le (Nat.le_refl _) (by omega))]
  | succ d ih =>
    intro i n h1 hn
    obtain ⟨n, rfl⟩ := succ_of hn
    have key := ih (i + 1) n (by omega) (by omega)
    rw [who] at key
    rw [f_X8_whoGave_l5, if_neg (nI_ge (by omega) (by omega)), has_n N (by omega) (by omega), b01]
    unfold f_X8_whoGave_j39
    rw [nI_1]
    cases hb : s.testBit i with
    | false =>
      rw [hb] at key
      exact key
    | true =>
      rw [hb, Bool.true_and] at key
      obtain ⟨g1, g2⟩ := hg i (by omega) hb
      rw [if_pos rfl, ivi_n (show i < 6 by omega) (by decide), ck_t, cl (by omega), g1]
      by_cases e : hs i = h
      · rw [if_pos (by rw [e])]
        rw [decide_eq_true e, if_pos rfl, enc_n (by omega)] at key
        exact key
      · rw [if_neg (fun q => e (inj_n (by omega) (by omega) q))]
        rw [decide_eq_false e] at key
        exact key
theorem behind_e {ρ : Type} (N : Nat) {P : Nat} {WL : Nat → List Nat} {WT : Nat → Nat} {wm ws weight gave : Nat → Int32} (H : HM P WL WT wm ws weight) {p k w hp : Nat} (hpP : p < P) (hk : k < (WL p).length) (hw : w ≤ 2) (hg : gave p = nI hp) (hhp : hp < P) (K : Int32 → Option ρ) : f_X8_behind N weight gave (nI p) (nI ((WL p).getD k 0)) (nI w) K = K (nI (dM WT w (WL p) hp k)) := by
  have hP := H.hP
  have h1 := H.lP p hpP _ (getD_mem hk)
  unfold f_X8_behind dM
  rw [ivi_n (show (WL p).getD k 0 < 6 by omega) (by decide), ck_t, ivi_n (show p < 6 by omega) (by decide), ck_t, cl (show p < 2 ^ 31 by omega), hg, ivi_n (show hp < 6 by omega) (by decide), ck_t, cl (show (WL p).getD k 0 < 2 ^ 31 by omega), cl (show hp < 2 ^ 31 by omega), H.wt _ h1, H.wt _ hhp]
  rcases (show w = 0 ∨ w = 1 ∨ w = 2 by omega) with rfl | rfl | rfl
  · rw [if_pos rfl, if_pos (show nI 0 = (0 : Int32) from rfl)]; rfl
  · rw [if_neg (show ¬ 1 = 0 by decide), if_neg (show ¬ nI 1 = (0 : Int32) by decide), if_pos rfl, if_pos (show nI 1 = (1 : Int32) from rfl)]
    rcases absM _ (show WT ((WL p).getD k 0) < 61 by have := H.w60 _ h1; omega) _ (show WT hp < 61 by have := H.w60 _ hhp; omega) with ⟨q1, q2⟩ | ⟨q1, q2⟩
    · rw [if_pos q1, q2]
    · rw [if_neg q1, q2]
  · rw [if_neg (show ¬ 2 = 0 by decide), if_neg (show ¬ nI 2 = (0 : Int32) by decide), if_neg (show ¬ 2 = 1 by decide), if_neg (show ¬ nI 2 = (1 : Int32) by decide)]
theorem four (p k : Nat) : (4 : Int32) * nI p + nI k = nI (4 * p + k) := by rw [← nI_add, ← pk_mul]; rfl
theorem pts_l9 {ρ : Type} {N : Nat} (hN : 200000 ≤ N) {P : Nat} {WL : Nat → List Nat} {WT hs : Nat → Nat} {wm ws weight gave : Nat → Int32} (H : HM P WL WT wm ws weight) {p w s : Nat} (hs1 : s < 2 ^ P) (hpP : p < P) (hw : w ≤ 2) (hg : ∀ p, p < P → s.testBit p = true → gave p = nI (hs p) ∧ hs p < P) (hps : s.testBit p = true) (K : Int32 → Option ρ) : ∀ (d k n : Nat), k + d = (WL p).length → d < n → f_X8_pointsAt_l9 (nI p) (nI s) (nI w) (nI P) wm ws gave weight K N n (enc (aimR (fun h => who hs s h P) (dM WT w (WL p) (hs p)) (WL p) k).1) (nI (aimR (fun h => who hs s h P) (dM WT w (WL p) (hs p)) (WL p) k).2) (nI k) = K (enc (aimP P WL WT hs w s p)) := by
  have hP := H.hP
  have h4 := H.l4 p hpP
  obtain ⟨hgp, hhp⟩ := hg p hpP hps
  intro d
  induction d with
  | zero =>
    intro k n h1 hn
    obtain ⟨n, rfl⟩ := succ_of hn
    obtain rfl : k = (WL p).length := by omega
    rw [f_X8_pointsAt_l9, ivi_n (show p < 6 by omega) (by decide), ck_t, cl (show p < 2 ^ 31 by omega), H.cw p hpP, if_pos (nI_le (Nat.le_refl _) (by omega)), aimP_M]
  | succ d ih =>
    intro k n h1 hn
    obtain ⟨n, rfl⟩ := succ_of hn
    have hk : k < (WL p).length := by omega
    have hh := H.lP p hpP _ (getD_mem hk)
    have key := ih (k + 1) n (by omega) (by omega)
    have hd := dM_le (w := w) hP H.w60 (H.lP p hpP) hhp hk
    have h2 := aim2_le (wh := fun h => who hs s h P) (d := dM WT w (WL p) (hs p)) (l := WL p) (k := k) (fun j hj => dM_le (w := w) hP H.w60 (H.lP p hpP) hhp (show j < _ by omega))
    have h3 := aim1_le (wh := fun h => who hs s h P) (d := dM WT w (WL p) (hs p)) (l := WL p) (fun h => who_le hP) k
    have hwl := who_le (hs := hs) (s := s) (h := (WL p).getD k 0) hP
    rw [f_X8_pointsAt_l9, ivi_n (show p < 6 by omega) (by decide), ck_t, cl (show p < 2 ^ 31 by omega), H.cw p hpP, if_neg (nI_ge hk (by omega)), four, ivi_n (show 4 * p + k < 24 by omega) (by decide), ck_t, cl (show 4 * p + k < 2 ^ 31 by omega), H.wd p hpP k hk, f_X8_whoGave, show (-1 : Int32) = enc (who hs s ((WL p).getD k 0) 0) from rfl, show (0 : Int32) = nI 0 from rfl, whoGave_l5 N hP hs1 hh hg _ P 0 N (by omega) (by omega), behind_e N H hpP hk hw hgp hhp]
    unfold f_X8_pointsAt_j73 f_X8_pointsAt_j69 f_X8_pointsAt_j74 f_X8_pointsAt_j88
    rw [nI_1, if00, if10, if00, if10, show nI 0 = (0 : Int32) from rfl]
    rw [aimR] at key
    by_cases q : who hs s ((WL p).getD k 0) P = 6
    · rw [if_pos ((enc_neg hwl).mpr q)]
      rw [if_pos q] at key
      exact key
    · rw [if_neg (fun h => q ((enc_neg hwl).mp h))]
      rw [if_neg q] at key
      by_cases c : (aimR (fun h => who hs s h P) (dM WT w (WL p) (hs p)) (WL p) k).1 = 6
      · rw [if_pos ((enc_neg h3).mpr c)]
        rw [if_pos (Or.inl c)] at key
        exact key
      · rw [if_neg (fun h => c ((enc_neg h3).mp h))]
        by_cases c2 : dM WT w (WL p) (hs p) k < (aimR (fun h => who hs s h P) (dM WT w (WL p) (hs p)) (WL p) k).2
        · rw [if_neg (nI_ge c2 (by omega))]
          rw [if_pos (Or.inr c2)] at key
          exact key
        · rw [if_pos (nI_le (by omega) (by omega))]
          rw [if_neg (fun h => h.elim c c2)] at key
          exact key
theorem pts_e {ρ : Type} {N : Nat} (hN : 200000 ≤ N) {P : Nat} {WL : Nat → List Nat} {WT hs : Nat → Nat} {wm ws weight gave : Nat → Int32} (H : HM P WL WT wm ws weight) {p w s : Nat} (hs1 : s < 2 ^ P) (hpP : p < P) (hw : w ≤ 2) (hg : ∀ p, p < P → s.testBit p = true → gave p = nI (hs p) ∧ hs p < P) (hps : s.testBit p = true) (K : Int32 → Option ρ) : f_X8_pointsAt N (nI P) wm ws gave weight (nI p) (nI s) (nI w) K = K (enc (aimP P WL WT hs w s p)) := by
  have h4 := H.l4 p hpP
  exact pts_l9 hN H hs1 hpP hw hg hps K (WL p).length 0 N (by omega) (by omega)
/-- the lowest from j on, or -1 -/
def isLow (f : Nat → Bool) (j P : Nat) (x : Int32) : Prop := ((∀ q, j ≤ q → q < P → f q = false) ∧ x = -1) ∨ ∃ p, j ≤ p ∧ p < P ∧ f p = true ∧ (∀ q, j ≤ q → q < p → f q = false) ∧ x = nI p
theorem isLow_yes {f : Nat → Bool} {j P : Nat} (hj : j < P) (h : f j = true) : isLow f j P (nI j) := Or.inr ⟨j, Nat.le_refl _, hj, h, fun q h1 h2 => absurd h1 (by omega), rfl⟩
theorem isLow_no {f : Nat → Bool} {j P : Nat} {x : Int32} (h : f j = false) (h1 : isLow f (j + 1) P x) : isLow f j P x := by
  rcases h1 with ⟨h2, e⟩ | ⟨p, h2, h3, h4, h5, e⟩
  · refine Or.inl ⟨fun q q1 q2 => ?_, e⟩
    by_cases e2 : q = j
    · subst e2; exact h
    · exact h2 q (by omega) q2
  · refine Or.inr ⟨p, by omega, h3, h4, fun q q1 q2 => ?_, e⟩
    by_cases e2 : q = j
    · subst e2; exact h
    · exact h5 q (by omega) q2
theorem goes_l77 {N : Nat} (hN : 200000 ≤ N) {P : Nat} {WL : Nat → List Nat} {WT hs : Nat → Nat} {wm ws weight gave : Nat → Int32} (H : HM P WL WT wm ws weight) {w s : Nat} (hs1 : s < 2 ^ P) (hw : w ≤ 2) (hg : ∀ p, p < P → s.testBit p = true → gave p = nI (hs p) ∧ hs p < P) : ∀ (j n : Nat) (y4 y5 : Int32) (z : Nat → Int32), j ≤ P → j < n → isLow (dumb P WL WT hs w s) j P y4 → isLow (fun p => s.testBit p) j P y5 → (∀ q, j ≤ q → q < P → s.testBit q = true → z q = enc (aimP P WL WT hs w s q)) → ∃ y4' y5' z', (∀ (ρ : Type) (k : Int32 → Int32 → (Nat → Int32) → Option ρ), f_X8_goesBy_l77 (nI w) (nI P) wm ws weight gave (nI s) k N n y4 y5 (nI j - 1) z = k y4' y5' z') ∧ isLow (dumb P WL WT hs w s) 0 P y4' ∧ isLow (fun p => s.testBit p) 0 P y5' ∧ ∀ q, q < P → s.testBit q = true → z' q = enc (aimP P WL WT hs w s q) := by
  have hP := H.hP
  have h64 := two_lt hP hs1
  intro j
  induction j with
  | zero =>
    intro n y4 y5 z hj hn h1 h2 h3
    obtain ⟨n, rfl⟩ := succ_of hn
    exact ⟨y4, y5, z, fun ρ k => by rw [f_X8_goesBy_l77, if_pos (show nI 0 - 1 < (0 : Int32) by decide)], h1, h2, fun q hq hb => h3 q (by omega) hq hb⟩
  | succ j ih =>
    intro n y4 y5 z hj hn h1 h2 h3
    obtain ⟨n, rfl⟩ := succ_of hn
    have ej : nI (j + 1) - 1 = nI j := nI_pred j
    have em : nI j + (-1) = nI j - 1 := (Int32.sub_eq_add_neg _ _).symm
    cases hb : s.testBit j with
    | false =>
      obtain ⟨y4', y5', z', e1, e2⟩ := ih n y4 y5 z (by omega) (by omega) (isLow_no (dumb_f.mpr (fun h => by rw [hb] at h; exact absurd h (by decide))) h1) (isLow_no (f := fun p => s.testBit p) hb h2) (fun q q1 q2 q3 => by
        by_cases e : q = j
        · subst e; rw [hb] at q3; exact absurd q3 (by decide)
        · exact h3 q (by omega) q2 q3)
      refine ⟨y4', y5', z', fun ρ k => ?_, e2⟩
      rw [f_X8_goesBy_l77, ej, if_neg (nI_pos (by omega)), has_n N (by omega) (by omega), b01, hb, em]
      exact e1 ρ k
    | true =>
      have hz : ∀ q, j ≤ q → q < P → s.testBit q = true → upd z j (enc (aimP P WL WT hs w s j)) q = enc (aimP P WL WT hs w s q) := fun q q1 q2 q3 => by
        by_cases e : q = j
        · subst e; exact upd_s _ _ _
        · rw [upd_n e]; exact h3 q (by omega) q2 q3
      by_cases e6 : aimP P WL WT hs w s j = 6
      · obtain ⟨y4', y5', z', e1, e2⟩ := ih n (nI j) (nI j) _ (by omega) (by omega) (isLow_yes (by omega) (dumb_t.mpr ⟨hb, e6⟩)) (isLow_yes (by omega) hb) hz
        refine ⟨y4', y5', z', fun ρ k => ?_, e2⟩
        rw [f_X8_goesBy_l77, ej, if_neg (nI_pos (by omega)), has_n N (by omega) (by omega), b01, hb, if_pos rfl, pts_e hN H hs1 (by omega) hw hg hb, ivi_n (show j < 6 by omega) (by decide), ck_t, ck_t, cl (by omega), upd_s, if_neg (show ¬ (0 : Int32) ≤ enc (aimP P WL WT hs w s j) by rw [e6]; decide), f_X8_goesBy_j123, em, cl (by omega)]
        exact e1 ρ k
      · have h6 := (aimP_in hP e6).1
        obtain ⟨y4', y5', z', e1, e2⟩ := ih n y4 (nI j) _ (by omega) (by omega) (isLow_no (dumb_f.mpr (fun _ => e6)) h1) (isLow_yes (by omega) hb) hz
        refine ⟨y4', y5', z', fun ρ k => ?_, e2⟩
        rw [f_X8_goesBy_l77, ej, if_neg (nI_pos (by omega)), has_n N (by omega) (by omega), b01, hb, if_pos rfl, pts_e hN H hs1 (by omega) hw hg hb, ivi_n (show j < 6 by omega) (by decide), ck_t, ck_t, cl (by omega), upd_s, if_pos (show (0 : Int32) ≤ enc (aimP P WL WT hs w s j) by rw [enc_n e6]; exact nI_pos' (by omega)), f_X8_goesBy_j123, em, cl (by omega)]
        exact e1 ρ k
/-- the ring, as the reference walks it -/
theorem ring_l4 {ρ : Type} (N : Nat) {P s : Nat} (hP : P ≤ 6) (hs1 : s < 2 ^ P) {at_ : Nat → Int32} {nx : Nat → Nat} (hna : ∀ p, s.testBit p = true → at_ p = nI (nx p)) (hin : ∀ p, s.testBit p = true → s.testBit (nx p) = true) {q e : Nat} (hq : s.testBit q = true) (he1 : (col nx q e).testBit (it nx e q) = true) (he2 : ∀ m, m < e → (col nx q m).testBit (it nx m q) = false) (k : Int32 → Option ρ) : ∀ (d j n : Nat), j + d = e → d < n → f_X8_ringOf_l4 at_ k N n (nI (col nx q j)) (nI (it nx j q)) = k (nI (it nx e q)) := by
  have h64 := two_lt hP hs1
  have hcs : ∀ j, col nx q j < 64 := fun j => Nat.lt_of_le_of_lt (sub_le (fun p hp => by
    obtain ⟨i, _, h2⟩ := (col_bit nx q p j).mp hp
    rw [← h2]; exact it_in hin hq i)) h64
  intro d
  induction d with
  | zero =>
    intro j n h1 hn
    obtain ⟨n, rfl⟩ := succ_of hn
    obtain rfl : j = e := by omega
    have h3 := bit_lt hs1 (it_in hin hq j)
    rw [f_X8_ringOf_l4, has_n N (by have := hcs j; omega) (by omega), b01, he1]; rfl
  | succ d ih =>
    intro j n h1 hn
    obtain ⟨n, rfl⟩ := succ_of hn
    have h2 := it_in hin hq j
    have h3 := bit_lt hs1 h2
    rw [f_X8_ringOf_l4, has_n N (by have := hcs j; omega) (by omega), b01, he2 j (by omega), ivi_n (show it nx j q < 6 by omega) (by decide), ck_t, cl (by omega), hna _ h2, sh1 _ (by omega), or_nI]
    exact ih (j + 1) n (by omega) (by omega)
theorem ring_l31 (N : Nat) {P s : Nat} (hP : P ≤ 6) (hs1 : s < 2 ^ P) {at_ gave : Nat → Int32} {nx hs : Nat → Nat} (hna : ∀ p, s.testBit p = true → at_ p = nI (nx p)) (hg : ∀ p, p < P → s.testBit p = true → gave p = nI (hs p) ∧ hs p < P) (hin : ∀ p, s.testBit p = true → s.testBit (nx p) = true) {q e : Nat} (hq : s.testBit q = true) (he1 : (col nx q e).testBit (it nx e q) = true) (he2 : ∀ m, m < e → (col nx q m).testBit (it nx m q) = false) {now0 : Nat → Int32} : ∀ (d j n : Nat) (now : Nat → Int32), j + d = e → d < n → (∀ i, now i = if (col nx q j).testBit i then nI (hs (nx i)) else now0 i) → ∃ now', (∀ (ρ : Type) (k : Int32 → (Nat → Int32) → Option ρ), f_X8_ringOf_l31 at_ gave k N n (nI (it nx j q)) (nI (col nx q j)) now = k (nI (col nx q e)) now') ∧ ∀ i, now' i = if (col nx q e).testBit i then nI (hs (nx i)) else now0 i := by
  have h64 := two_lt hP hs1
  have hcs : ∀ j, col nx q j < 64 := fun j => Nat.lt_of_le_of_lt (sub_le (fun p hp => by
    obtain ⟨i, _, h2⟩ := (col_bit nx q p j).mp hp
    rw [← h2]; exact it_in hin hq i)) h64
  intro d
  induction d with
  | zero =>
    intro j n now h1 hn hnow
    obtain ⟨n, rfl⟩ := succ_of hn
    obtain rfl : j = e := by omega
    have h3 := bit_lt hs1 (it_in hin hq j)
    exact ⟨now, fun ρ k => by rw [f_X8_ringOf_l31, has_n N (by have := hcs j; omega) (by omega), b01, he1]; rfl, hnow⟩
  | succ d ih =>
    intro j n now h1 hn hnow
    obtain ⟨n, rfl⟩ := succ_of hn
    have h2 := it_in hin hq j
    have h3 := bit_lt hs1 h2
    have h2n := hin _ h2
    have h3n := bit_lt hs1 h2n
    obtain ⟨now', e1, e2⟩ := ih (j + 1) n (upd now (it nx j q) (nI (hs (nx (it nx j q))))) (by omega) (by omega) (fun i => by
      rw [col, Nat.testBit_or, Nat.testBit_two_pow]
      by_cases e : i = it nx j q
      · subst e; rw [upd_s, decide_eq_true rfl, Bool.or_true, if_pos rfl]
      · rw [upd_n e, decide_eq_false (fun h => e h.symm), Bool.or_false]; exact hnow i)
    refine ⟨now', fun ρ k => ?_, e2⟩
    rw [f_X8_ringOf_l31, has_n N (by have := hcs j; omega) (by omega), b01, he2 j (by omega)]
    simp only [Bool.false_eq_true, if_false, Int32.zero_add, ivi_n (show it nx j q < 6 by omega) (by decide), ivi_n (show it nx j q < 25 by omega) (by decide), ck_t, cl (show it nx j q < 2 ^ 31 by omega), hna _ h2, ivi_n (show nx (it nx j q) < 6 by omega) (by decide), cl (show nx (it nx j q) < 2 ^ 31 by omega), (hg _ h3n h2n).1, sh1 (it nx j q) (by omega), or_nI]
    exact e1 ρ k
theorem ringOf_e {N : Nat} (hN : 200000 ≤ N) {P s : Nat} (hP : P ≤ 6) (hs1 : s < 2 ^ P) {at_ gave : Nat → Int32} {nx hs : Nat → Nat} (hna : ∀ p, s.testBit p = true → at_ p = nI (nx p)) (hg : ∀ p, p < P → s.testBit p = true → gave p = nI (hs p) ∧ hs p < P) (hin : ∀ p, s.testBit p = true → s.testBit (nx p) = true) {q : Nat} (hq : s.testBit q = true) (now : Nat → Int32) : ∃ now', (∀ (ρ : Type) (k : Int32 → (Nat → Int32) → Option ρ), f_X8_ringOf N at_ gave now (nI q) k = k (nI (ringS nx q)) now') ∧ ∀ i, now' i = if (ringS nx q).testBit i then nI (hs (nx i)) else now i := by
  have h6 : ∀ n, it nx n q < 6 := fun n => by have := bit_lt hs1 (it_in hin hq n); omega
  obtain ⟨e, he, he1, he2⟩ := rep_ex h6
  obtain ⟨f, hf, hf1, hf2⟩ := rep_ex (nx := nx) (q := it nx e q) (fun n => by rw [← it_add]; exact h6 _)
  have hring := ring_eq he he1 hf hf1 h6
  obtain ⟨now', e1, e2⟩ := ring_l31 N hP hs1 hna hg hin (it_in hin hq e) hf1 hf2 (now0 := now) f 0 N now (by omega) (by omega) (fun i => by rw [col, Nat.zero_testBit]; rfl)
  rw [hring] at e1 e2
  refine ⟨now', fun ρ k => ?_, e2⟩
  unfold f_X8_ringOf
  have h1 := ring_l4 N hP hs1 hna hin hq he1 he2 (fun y3_e28 => f_X8_ringOf_e28 now at_ gave k N y3_e28) e 0 N (by omega) (by omega)
  refine h1.trans ?_
  unfold f_X8_ringOf_e28
  exact e1 ρ k
/-- how the reference's row looks between the rounds -/
def bitsF (bt WT : Nat → Nat) (c : Nat) (L : List Nat) (k : Nat) : Nat := if k < c then bt k else WT (L.getD (k - c) 0)
abbrev MN (P g : Nat) (hs bt WT : Nat → Nat) (c : Nat) (base : Nat → Int32) (σ : NS) (now : Nat → Int32) : Prop := (∀ p, p < P → now p = nI (if g.testBit p && !σ.1.testBit p then σ.2.2.2 p else hs p)) ∧ (now 13 = nI (min 8 (c + σ.2.2.1.length))) ∧ (∀ k, k < min 8 (c + σ.2.2.1.length) → now (14 + k) = nI (bitsF bt WT c σ.2.2.1 k)) ∧ (∀ k, (6 ≤ k ∧ k < 13) ∨ 22 ≤ k → now k = base k)
theorem MN.pp {P g : Nat} {hs bt WT : Nat → Nat} {c : Nat} {base : Nat → Int32} {σ : NS} {now : Nat → Int32} (zz : MN P g hs bt WT c base σ now) : ∀ p, p < P → now p = nI (if g.testBit p && !σ.1.testBit p then σ.2.2.2 p else hs p) := zz.1
theorem MN.n13 {P g : Nat} {hs bt WT : Nat → Nat} {c : Nat} {base : Nat → Int32} {σ : NS} {now : Nat → Int32} (zz : MN P g hs bt WT c base σ now) : now 13 = nI (min 8 (c + σ.2.2.1.length)) := zz.2.1
theorem MN.bb {P g : Nat} {hs bt WT : Nat → Nat} {c : Nat} {base : Nat → Int32} {σ : NS} {now : Nat → Int32} (zz : MN P g hs bt WT c base σ now) : ∀ k, k < min 8 (c + σ.2.2.1.length) → now (14 + k) = nI (bitsF bt WT c σ.2.2.1 k) := zz.2.2.1
theorem MN.oth {P g : Nat} {hs bt WT : Nat → Nat} {c : Nat} {base : Nat → Int32} {σ : NS} {now : Nat → Int32} (zz : MN P g hs bt WT c base σ now) : ∀ k, (6 ≤ k ∧ k < 13) ∨ 22 ≤ k → now k = base k := zz.2.2.2
theorem getD_app {L : List Nat} {h i : Nat} (hi : i < L.length) : (L ++ [h]).getD i 0 = L.getD i 0 := by
  rw [List.getD_eq_getElem?_getD, List.getElem?_append_left hi, ← List.getD_eq_getElem?_getD]
theorem getD_last {L : List Nat} {h : Nat} : (L ++ [h]).getD L.length 0 = h := by
  rw [List.getD_eq_getElem?_getD, List.getElem?_append_right (Nat.le_refl _), Nat.sub_self]; rfl
theorem isLump_e {N : Nat} {P g c p : Nat} {WL : Nat → List Nat} {WT hs bt : Nat → Nat} {wm ws weight gave base now : Nat → Int32} (H : HM P WL WT wm ws weight) {σ : NS} (I : NI P g hs σ) (hc : c ≤ 8) (hp : p < P) (hb : σ.1.testBit p = true) (hg : gave p = nI (hs p) ∧ hs p < P) (M : MN P g hs bt WT c base σ now) {n : Nat} : ∃ now', (∀ (ρ : Type) (k : Int32 → (Nat → Int32) → Option ρ), f_X8_isLump N (nI n) now gave weight (nI p) k = k (nI (n + 1)) now') ∧ MN P g hs bt WT c base ⟨dif σ.1 (2 ^ p), σ.2.1, σ.2.2.1 ++ [hs p], σ.2.2.2⟩ now' := by
  have hP := H.hP
  have hpp : ∀ q, q < P → upd now p 6 q = nI (if g.testBit q && !(dif σ.1 (2 ^ p)).testBit q then σ.2.2.2 q else hs q) := fun q hq => by
    rw [dif_bit, Nat.testBit_two_pow]
    by_cases e : q = p
    · subst e
      rw [upd_s, decide_eq_true rfl, Bool.not_true, Bool.and_false, Bool.not_false, Bool.and_true, I.sg q hb, if_pos rfl, I.gt6 q (I.dis q hb)]; rfl
    · rw [upd_n e, decide_eq_false (fun h => e h.symm), Bool.not_false, Bool.and_true]; exact M.pp q hq
  by_cases h8 : 8 ≤ c + σ.2.2.1.length
  · refine ⟨upd now p 6, fun ρ k => ?_, ⟨hpp, ?_, fun k hk => ?_, fun k hk => ?_⟩⟩
    · unfold f_X8_isLump
      rw [Int32.zero_add, ivi_n (show p < 25 by omega) (by decide), ck_t, i13, ck_t, cl (by omega), c13, upd_n (by omega), M.n13, if_pos (show (8 : Int32) ≤ nI (min 8 (c + σ.2.2.1.length)) from nI_le (a := 8) (by omega) (by omega)), nI_1]
    · dsimp only
      rw [upd_n (by omega), M.n13, List.length_append, List.length_singleton]
      congr 1; omega
    · dsimp only at *
      rw [List.length_append, List.length_singleton] at hk
      rw [upd_n (by omega), M.bb k (by omega)]
      unfold bitsF
      by_cases q : k < c
      · rw [if_pos q, if_pos q]
      · rw [if_neg q, if_neg q, getD_app (by omega)]
    · rw [upd_n (by omega)]; exact M.oth k hk
  · have hmin : min 8 (c + σ.2.2.1.length) = c + σ.2.2.1.length := by omega
    have h13 := M.n13
    rw [hmin] at h13
    refine ⟨upd (upd (upd now p 6) (14 + (c + σ.2.2.1.length)) (nI (WT (hs p)))) 13 (nI (c + σ.2.2.1.length + 1)), fun ρ k => ?_, ⟨fun q hq => ?_, ?_, fun k hk => ?_, fun k hk => ?_⟩⟩
    · unfold f_X8_isLump
      have e13 : upd now p 6 13 = nI (c + σ.2.2.1.length) := by rw [upd_n (by omega)]; exact h13
      have e14 : (14 : Int32) + nI (c + σ.2.2.1.length) = nI (14 + (c + σ.2.2.1.length)) := nI_add 14 _
      simp only [Int32.zero_add, ivi_n (show p < 25 by omega) (by decide), ck_t, i13, cl (show p < 2 ^ 31 by omega), c13, e13, if_neg (show ¬ (8 : Int32) ≤ nI (c + σ.2.2.1.length) from nI_ge (b := 8) (by omega) (by omega)), ivi_n (show p < 6 by omega) (by decide), hg.1, ivi_n (show hs p < 6 by omega) (by decide), e14, ivi_n (show 14 + (c + σ.2.2.1.length) < 25 by omega) (by decide), cl (show 14 + (c + σ.2.2.1.length) < 2 ^ 31 by omega), cl (show hs p < 2 ^ 31 by omega), H.wt _ hg.2, nI_1]
      rw [upd_n (show 13 ≠ 14 + (c + σ.2.2.1.length) by omega), e13, nI_1]
    · rw [upd_n (by omega), upd_n (by omega)]; exact hpp q hq
    · dsimp only
      rw [upd_s, List.length_append, List.length_singleton]
      congr 1; omega
    · dsimp only at *
      rw [List.length_append, List.length_singleton] at hk
      rw [upd_n (by omega)]
      by_cases e : k = c + σ.2.2.1.length
      · subst e
        rw [upd_s]
        unfold bitsF
        rw [if_neg (by omega), show c + σ.2.2.1.length - c = σ.2.2.1.length by omega, getD_last]
      · rw [upd_n (by omega), upd_n (by omega), M.bb k (by omega)]
        unfold bitsF
        by_cases q : k < c
        · rw [if_pos q, if_pos q]
        · rw [if_neg q, if_neg q, getD_app (by omega)]
    · rw [upd_n (by omega), upd_n (by omega), upd_n (by omega)]; exact M.oth k hk
/-- the rounds -/
theorem goes_l59 {N : Nat} (hN : 200000 ≤ N) {P g c : Nat} {WL : Nat → List Nat} {WT hs bt : Nat → Nat} {wm ws weight gave base : Nat → Int32} (H : HM P WL WT wm ws weight) (hc : c ≤ 8) {w : Nat} (hw : w ≤ 2) (hgv : ∀ p, p < P → g.testBit p = true → gave p = nI (hs p)) : ∀ (d n : Nat) (σ : NS) (now at_ : Nat → Int32), popc σ.1 6 ≤ d → d < n → NI P g hs σ → MN P g hs bt WT c base σ now → ∃ now' at', (∀ (ρ : Type) (k : Int32 → Int32 → (Nat → Int32) → (Nat → Int32) → (Nat → Int32) → Option ρ), f_X8_goesBy_l59 (nI w) (nI P) wm ws weight gave k N n (nI σ.1) (nI σ.2.1) (nI σ.2.2.1.length) now at_ = k (nI (nightF P WL WT hs w d σ).2.1) (nI (nightF P WL WT hs w d σ).2.2.1.length) now' gave at') ∧ MN P g hs bt WT c base (nightF P WL WT hs w d σ) now' := by
  have hP := H.hP
  intro d
  induction d with
  | zero =>
    intro n σ now at_ hpc hn I M
    obtain ⟨n, rfl⟩ := succ_of hn
    have h0 := (night_end (WL := WL) (WT := WT) (w := w) hP 0 σ hpc I).2
    rw [show nightF P WL WT hs w 0 σ = σ from rfl] at h0
    exact ⟨now, at_, fun ρ k => by rw [f_X8_goesBy_l59, h0, if_pos (show nI 0 = (0 : Int32) from rfl)]; rfl, M⟩
  | succ d ih =>
    intro n σ now at_ hpc hn I M
    obtain ⟨n, rfl⟩ := succ_of hn
    rw [nightF]
    by_cases h0 : σ.1 = 0
    · rw [if_pos h0]
      exact ⟨now, at_, fun ρ k => by rw [f_X8_goesBy_l59, h0, if_pos (show nI 0 = (0 : Int32) from rfl)], M⟩
    rw [if_neg h0]
    have hsP := sub_lt hP I.sg I.gP
    have h64 := two_lt hP hsP
    have hround := NI_round (WL := WL) (WT := WT) (w := w) hP I h0
    have hsg : ∀ p, p < P → σ.1.testBit p = true → gave p = nI (hs p) ∧ hs p < P := fun p hp hb => ⟨hgv p hp (I.sg p hb), I.hgl p hp (I.sg p hb)⟩
    have hP0 : nI P - 1 = nI P - 1 := rfl
    obtain ⟨y4, y5, z, e1, i4, i5, hz⟩ := goes_l77 hN H hsP hw hsg P N (-1) (-1) at_ (Nat.le_refl _) (by omega) (Or.inl ⟨fun q h1 h2 => absurd h1 (by omega), rfl⟩) (Or.inl ⟨fun q h1 h2 => absurd h1 (by omega), rfl⟩) (fun q h1 h2 => absurd h1 (by omega))
    have e00 : ∀ (ρ : Type) (k : Int32 → Int32 → (Nat → Int32) → (Nat → Int32) → (Nat → Int32) → Option ρ), f_X8_goesBy_l59 (nI w) (nI P) wm ws weight gave k N (n + 1) (nI σ.1) (nI σ.2.1) (nI σ.2.2.1.length) now at_ = f_X8_goesBy_e135 weight gave (nI σ.1) (nI σ.2.1) (nI σ.2.2.1.length) now (f_X8_goesBy_l59 (nI w) (nI P) wm ws weight gave k N n) N y4 y5 z := fun ρ k => by rw [f_X8_goesBy_l59, if_neg (nI_ne0 (Nat.pos_of_ne_zero h0) (by omega)), e1]
    rcases i4 with ⟨hd, rfl⟩ | ⟨p, _, hp, d1, d2, rfl⟩
    · rcases i5 with ⟨hz5, _⟩ | ⟨q, _, hq, h1, h2, rfl⟩
      · exact absurd (zero_of hsP (fun p hp => hz5 p (by omega) hp)) h0
      have hdm : ∀ q, q < P → dumb P WL WT hs w σ.1 q = false := fun q hq => hd q (by omega) hq
      have hin := aim_in (g := g) hP hsP hdm
      rw [round_ring hdm hq h1 (fun q' h => h2 q' (by omega) h)] at hround ⊢
      have hC := ring_in hin h1
      have hCl := sub_le hC
      obtain ⟨now1, r1, r2⟩ := ringOf_e hN hP hsP (at_ := z) (gave := gave) (fun p hb => by rw [hz p (bit_lt hsP hb) hb, enc_n (dumb_f.mp (hdm p (bit_lt hsP hb)) hb)]) hsg hin h1 now
      have h13C : ∀ i, 6 ≤ i → (ringS (aimP P WL WT hs w σ.1) q).testBit i = false := fun i hi => by
        cases e : (ringS (aimP P WL WT hs w σ.1) q).testBit i
        · rfl
        · have := bit_lt hsP (hC i e); omega
      obtain ⟨now', at', q1, q2⟩ := ih n _ now1 z (by have := hround.2; dsimp only at *; omega) (by omega) hround.1 ⟨fun p hp => by
          dsimp only
          rw [r2, dif_bit]
          cases e : (ringS (aimP P WL WT hs w σ.1) q).testBit p with
          | true => rw [I.sg p (hC p e), Bool.not_true, Bool.and_false, Bool.not_false, Bool.and_true, if_pos rfl, if_pos rfl, if_pos rfl]
          | false =>
            rw [Bool.not_false, Bool.and_true, if_neg (by decide), M.pp p hp]
            rfl, by rw [r2, h13C 13 (by omega)]; exact M.n13, fun k hk => by rw [r2, h13C (14 + k) (by omega)]; exact M.bb k hk, fun k hk => by rw [r2, h13C k (by omega)]; exact M.oth k hk⟩
      refine ⟨now', at', fun ρ k => ?_, q2⟩
      have q1' := q1 ρ k
      dsimp only at q1'
      rw [← q1', e00]
      unfold f_X8_goesBy_e135 f_X8_goesBy_j153 f_X8_goesBy_j180
      rw [if_neg (show ¬ (0 : Int32) ≤ -1 by decide), r1, if_pos (show (-1 : Int32) < 0 by decide), or_nI, andn _ (by omega)]
    · have hb := (dumb_t.mp d1).1
      rw [round_dumb hp d1 (fun q hq => d2 q (by omega) hq)] at hround ⊢
      obtain ⟨now1, r1, r2⟩ := isLump_e (N := N) H I hc hp hb (hsg p hp hb) M (n := σ.2.2.1.length)
      obtain ⟨now', at', q1, q2⟩ := ih n _ now1 z (by have := hround.2; dsimp only at *; omega) (by omega) hround.1 r2
      refine ⟨now', at', fun ρ k => ?_, q2⟩
      have q1' := q1 ρ k
      dsimp only at q1'
      rw [← q1', e00]
      unfold f_X8_goesBy_e135 f_X8_goesBy_j153 f_X8_goesBy_j180
      rw [if_pos (show (0 : Int32) ≤ nI p from nI_pos' (by omega)), if_neg (nI_pos (by omega)), r1, sh1 p (by omega), andn _ (by omega), List.length_append, List.length_singleton]
theorem goes_l15 {N : Nat} {P g : Nat} (hP : P ≤ 6) (hg : g < 2 ^ P) {hs : Nat → Nat} {now : Nat → Int32} (hh : ∀ p, p < P → now p = nI (hs p)) : ∀ (d i n : Nat) (gave : Nat → Int32), i + d = P → d < n → (∀ p, p < i → g.testBit p = true → gave p = nI (hs p)) → ∃ gave', (∀ (ρ : Type) (k : (Nat → Int32) → Option ρ), f_X8_goesBy_l15 (nI g) now (nI P) k N n (nI i) gave = k gave') ∧ ∀ p, p < P → g.testBit p = true → gave' p = nI (hs p) := by
  have h64 := two_lt hP hg
  intro d
  induction d with
  | zero =>
    intro i n gave h1 hn h2
    obtain ⟨n, rfl⟩ := succ_of hn
    obtain rfl : i = P := by omega
    exact ⟨gave, fun ρ k => by rw [f_X8_goesBy_l15, if_pos (nI_le (Nat.le_refl _) (by omega))], h2⟩
  | succ d ih =>
    intro i n gave h1 hn h2
    obtain ⟨n, rfl⟩ := succ_of hn
    cases hb : g.testBit i with
    | false =>
      obtain ⟨gave', e1, e2⟩ := ih (i + 1) n (upd gave i (-1)) (by omega) (by omega) (fun p hp hb2 => by
        by_cases e : p = i
        · subst e; rw [hb] at hb2; exact absurd hb2 (by decide)
        · rw [upd_n e]; exact h2 p (by omega) hb2)
      refine ⟨gave', fun ρ k => ?_, e2⟩
      rw [f_X8_goesBy_l15, if_neg (nI_ge (by omega) (by omega)), has_n N (by omega) (by omega), b01, hb, ivi_n (show i < 6 by omega) (by decide), ck_t, cl (show i < 2 ^ 31 by omega), nI_1]
      exact e1 ρ k
    | true =>
      obtain ⟨gave', e1, e2⟩ := ih (i + 1) n (upd gave i (nI (hs i))) (by omega) (by omega) (fun p hp hb2 => by
        by_cases e : p = i
        · subst e; exact upd_s _ _ _
        · rw [upd_n e]; exact h2 p (by omega) hb2)
      refine ⟨gave', fun ρ k => ?_, e2⟩
      rw [f_X8_goesBy_l15, if_neg (nI_ge (by omega) (by omega)), has_n N (by omega) (by omega), b01, hb, if_pos rfl, Int32.zero_add, ivi_n (show i < 25 by omega) (by decide), ck_t, ivi_n (show i < 6 by omega) (by decide), ck_t, cl (show i < 2 ^ 31 by omega), hh i (by omega), nI_1]
      exact e1 ρ k
/-- the reference plays the night of those in g -/
theorem goes_e {N : Nat} (hN : 200000 ≤ N) {P g c : Nat} {WL : Nat → List Nat} {WT hs bt : Nat → Nat} {wm ws weight : Nat → Int32} (H : HM P WL WT wm ws weight) (hc : c ≤ 8) {w : Nat} (hw : w ≤ 2) (hg : g < 2 ^ P) (h1 : ∀ p, p < P → g.testBit p = true → hs p < P) (h2 : ∀ p q, p < P → q < P → g.testBit p = true → g.testBit q = true → hs p = hs q → p = q) {now : Nat → Int32} (hh : ∀ p, p < P → now p = nI (hs p)) (h13 : now 13 = nI c) (hb : ∀ k, k < c → now (14 + k) = nI (bt k)) (gave at_ : Nat → Int32) : ∃ now' gave' at', (∀ (ρ : Type) (k : Int32 → Int32 → (Nat → Int32) → (Nat → Int32) → (Nat → Int32) → Option ρ), f_X8_goesBy N (nI P) now gave wm ws weight at_ (nI g) (nI w) k = k (nI (Nt P WL WT hs w g).2.1) (nI (Nt P WL WT hs w g).2.2.1.length) now' gave' at') ∧ MN P g hs bt WT c now (Nt P WL WT hs w g) now' := by
  have hP := H.hP
  obtain ⟨gave1, e1, f1⟩ := goes_l15 (N := N) hP hg hh P 0 N gave (by omega) (by omega) (fun p hp => absurd hp (by omega))
  obtain ⟨now', at', e2, f2⟩ := goes_l59 hN (bt := bt) (base := now) H hc hw f1 6 N (N0 g) now at_ (popc_le _ 6) (by omega) (NI_0 hg h1 h2) ⟨fun p hp => by
      rw [hh p hp]
      unfold N0
      cases g.testBit p <;> rfl, by rw [h13]; unfold N0; dsimp only; congr 1; simp; omega, fun k hk => by
      unfold N0 at *
      dsimp only [List.length_nil] at hk
      rw [hb k (by omega)]
      unfold bitsF
      rw [if_pos (by omega)], fun k _ => rfl⟩
  refine ⟨now', gave1, at', fun ρ k => ?_, f2⟩
  unfold f_X8_goesBy f_X8_goesBy_e59
  exact (e1 ρ _).trans (e2 ρ k)

