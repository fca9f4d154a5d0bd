/-! 38.fits: which laws fit the nights told -/
abbrev TL (P t : Nat) (TS TP TH : Nat → Nat) (tset twho thour mtold : Nat → Int32) : Prop := (t ≤ 6) ∧ (∀ j, j < t → TS j < 2 ^ P) ∧ (∀ j, j < t → TP j < P) ∧ (∀ j, j < t → TH j < P) ∧ (∀ j, j < t → (TS j).testBit (TP j) = true) ∧ (∀ j, j < t → tset j = nI (TS j)) ∧ (∀ j, j < t → twho j = nI (TP j)) ∧ (∀ j, j < t → thour j = nI (TH j)) ∧ (∀ j, j < t → mtold (3 * j) = nI (TS j)) ∧ (∀ j, j < t → mtold (3 * j + 1) = nI (TP j)) ∧ (∀ j, j < t → mtold (3 * j + 2) = nI (TH j))
theorem TL.t6 {P t : Nat} {TS TP TH : Nat → Nat} {tset twho thour mtold : Nat → Int32} (zz : TL P t TS TP TH tset twho thour mtold) : t ≤ 6 := zz.1
theorem TL.sP {P t : Nat} {TS TP TH : Nat → Nat} {tset twho thour mtold : Nat → Int32} (zz : TL P t TS TP TH tset twho thour mtold) : ∀ j, j < t → TS j < 2 ^ P := zz.2.1
theorem TL.pP {P t : Nat} {TS TP TH : Nat → Nat} {tset twho thour mtold : Nat → Int32} (zz : TL P t TS TP TH tset twho thour mtold) : ∀ j, j < t → TP j < P := zz.2.2.1
theorem TL.hP {P t : Nat} {TS TP TH : Nat → Nat} {tset twho thour mtold : Nat → Int32} (zz : TL P t TS TP TH tset twho thour mtold) : ∀ j, j < t → TH j < P := zz.2.2.2.1
theorem TL.bp {P t : Nat} {TS TP TH : Nat → Nat} {tset twho thour mtold : Nat → Int32} (zz : TL P t TS TP TH tset twho thour mtold) : ∀ j, j < t → (TS j).testBit (TP j) = true := zz.2.2.2.2.1
theorem TL.xs {P t : Nat} {TS TP TH : Nat → Nat} {tset twho thour mtold : Nat → Int32} (zz : TL P t TS TP TH tset twho thour mtold) : ∀ j, j < t → tset j = nI (TS j) := zz.2.2.2.2.2.1
theorem TL.xp {P t : Nat} {TS TP TH : Nat → Nat} {tset twho thour mtold : Nat → Int32} (zz : TL P t TS TP TH tset twho thour mtold) : ∀ j, j < t → twho j = nI (TP j) := zz.2.2.2.2.2.2.1
theorem TL.xh {P t : Nat} {TS TP TH : Nat → Nat} {tset twho thour mtold : Nat → Int32} (zz : TL P t TS TP TH tset twho thour mtold) : ∀ j, j < t → thour j = nI (TH j) := zz.2.2.2.2.2.2.2.1
theorem TL.ms {P t : Nat} {TS TP TH : Nat → Nat} {tset twho thour mtold : Nat → Int32} (zz : TL P t TS TP TH tset twho thour mtold) : ∀ j, j < t → mtold (3 * j) = nI (TS j) := zz.2.2.2.2.2.2.2.2.1
theorem TL.mp {P t : Nat} {TS TP TH : Nat → Nat} {tset twho thour mtold : Nat → Int32} (zz : TL P t TS TP TH tset twho thour mtold) : ∀ j, j < t → mtold (3 * j + 1) = nI (TP j) := zz.2.2.2.2.2.2.2.2.2.1
theorem TL.mh {P t : Nat} {TS TP TH : Nat → Nat} {tset twho thour mtold : Nat → Int32} (zz : TL P t TS TP TH tset twho thour mtold) : ∀ j, j < t → mtold (3 * j + 2) = nI (TH j) := zz.2.2.2.2.2.2.2.2.2.2
theorem Ro_TL {P : Nat} (hP : P ≤ 6) {told many : Int32} {tset twho thour mtold : Nat → Int32} (h : Ro P told tset twho thour many mtold) : ∃ t TS TP TH, told = nI t ∧ many = nI t ∧ TL P t TS TP TH tset twho thour mtold := by
  obtain ⟨t, h1, h2, h3, h4⟩ := h
  have h64 := pow6 hP
  have key : ∀ j, j < t → (tset j).toNatClampNeg < 2 ^ P ∧ (twho j).toNatClampNeg < P ∧ (thour j).toNatClampNeg < P ∧ ((tset j).toNatClampNeg).testBit (twho j).toNatClampNeg = true ∧ tset j = nI (tset j).toNatClampNeg ∧ twho j = nI (twho j).toNatClampNeg ∧ thour j = nI (thour j).toNatClampNeg ∧ mtold (3 * j) = nI (tset j).toNatClampNeg ∧ mtold (3 * j + 1) = nI (twho j).toNatClampNeg ∧ mtold (3 * j + 2) = nI (thour j).toNatClampNeg := fun j hj => by
    obtain ⟨s, p, h, q1, q2, q3, q4, q5, q6, q7, q8, q9, q10, q11⟩ := h4 j hj
    rw [q6, q8, q10, q7, q9, q11, cl (show s < 2 ^ 31 by omega), cl (show p < 2 ^ 31 by omega), cl (show h < 2 ^ 31 by omega)]
    exact ⟨q1, q2, q3, q4, rfl, rfl, rfl, rfl, rfl, rfl⟩
  exact ⟨t, _, _, _, h2, h3, ⟨h1, fun j hj => (key j hj).1, fun j hj => (key j hj).2.1, fun j hj => (key j hj).2.2.1, fun j hj => (key j hj).2.2.2.1, fun j hj => (key j hj).2.2.2.2.1, fun j hj => (key j hj).2.2.2.2.2.1, fun j hj => (key j hj).2.2.2.2.2.2.1, fun j hj => (key j hj).2.2.2.2.2.2.2.1, fun j hj => (key j hj).2.2.2.2.2.2.2.2.1, fun j hj => (key j hj).2.2.2.2.2.2.2.2.2⟩⟩
def alF (so : Nat → Bool) : Nat → Nat → Bool
  | 0, _ => true
  | d + 1, i => so i && alF so d (i + 1)
def soF (P : Nat) (WL : Nat → List Nat) (WT TS TP TH : Nat → Nat) (w j : Nat) : Bool := decide ((Nt P WL WT (fun i => i) w (TS j)).2.2.2 (TP j) = TH j)
theorem ownF {P g : Nat} (hP : P ≤ 6) {WL : Nat → List Nat} {WT : Nat → Nat} {w : Nat} (hg : g < 2 ^ P) : NF P g (fun i => i) (Nt P WL WT (fun i => i) w g) :=
  NtF hP (fun p hp => ⟨by omega, fun _ => hp⟩) (fun p _ q _ e _ => e) hg (fun p hp _ => by omega)
theorem allX_l2 {N : Nat} (hN : 200000 ≤ N) {P t : Nat} {WL : Nat → List Nat} {WT TS TP TH : Nat → Nat} {wc : Nat → Int32} {wanted : Nat → Nat → Int32} {weight : Nat → Int32} (H : HX P WL WT wc wanted weight) {w : Nat} (hw : w ≤ 2) {tset twho thour mtold : Nat → Int32} (T : TL P t TS TP TH tset twho thour mtold) : ∀ (d i n : Nat) (kl kc kr : Int32) (giver got gave aims lumps : Nat → Int32), i + d = t → d < n → ∃ kl' kc' kr' giver' got' gave' aims' lumps', ∀ (ρ : Type) (k : Int32 → Int32 → Int32 → Int32 → (Nat → Int32) → (Nat → Int32) → (Nat → Int32) → (Nat → Int32) → (Nat → Int32) → Option ρ), f_X7_allToldIsSoBy_l2 (nI w) ownC (nI t) tset (nI P) wc wanted weight twho thour k N n (nI i) kl kc kr giver got gave aims lumps = k (if alF (soF P WL WT TS TP TH w) d i then 1 else 0) kl' kc' kr' giver' got' gave' aims' lumps' := by
  have hP := H.hP
  have ht6 := T.t6
  intro d
  induction d with
  | zero =>
    intro i n kl kc kr giver got gave aims lumps h1 hn
    obtain ⟨n, rfl⟩ := succ_of hn
    exact ⟨kl, kc, kr, giver, got, gave, aims, lumps, fun ρ k => by rw [f_X7_allToldIsSoBy_l2, if_pos (nI_le (by omega) (by omega))]; rfl⟩
  | succ d ih =>
    intro i n kl kc kr giver got gave aims lumps h1 hn
    obtain ⟨n, rfl⟩ := succ_of hn
    have hi : i < t := by omega
    have hpP := T.pP i hi
    obtain ⟨x1, x2, x3, x4, x5, e1, e2, e3⟩ := play_e hN (hs := fun i => i) H hw (T.sP i hi) (fun p hp _ => hp) (fun p q _ _ _ _ e => e) (has := ownC) (fun p _ _ => rfl) giver got gave aims lumps
    have F := ownF (WL := WL) (WT := WT) (w := w) hP (T.sP i hi)
    have e00 : ∀ (ρ : Type) (k : Int32 → Int32 → Int32 → Int32 → (Nat → Int32) → (Nat → Int32) → (Nat → Int32) → (Nat → Int32) → (Nat → Int32) → Option ρ), f_X7_allToldIsSoBy_l2 (nI w) ownC (nI t) tset (nI P) wc wanted weight twho thour k N (n + 1) (nI i) kl kc kr giver got gave aims lumps = _ := fun ρ k => by rw [f_X7_allToldIsSoBy_l2, if_neg (nI_ge hi (by omega)), ivi_n (show i < 6 by omega) (by decide), ck_t, cl (show i < 2 ^ 31 by omega), T.xs i hi, e1, ck_t, T.xp i hi, ivi_n (show TP i < 6 by omega) (by decide), ck_t, ck_t, T.xh i hi, cl (show TP i < 2 ^ 31 by omega), e2 (TP i) (by omega), nI_1]
    simp only [e00]
    rw [alF]
    have hq := enc9_eq hP (F.gtP (TP i)) (T.hP i hi)
    by_cases hs : (Nt P WL WT (fun i => i) w (TS i)).2.2.2 (TP i) = TH i
    · simp only [if_pos (hq.mpr hs)]
      rw [show soF P WL WT TS TP TH w i = true from decide_eq_true hs, Bool.true_and]
      exact ih (i + 1) n 0 _ _ x1 x2 x3 x4 x5 (by omega) (by omega)
    · simp only [if_neg (fun q => hs (hq.mp q))]
      rw [show soF P WL WT TS TP TH w i = false from decide_eq_false hs, Bool.false_and]
      exact ⟨_, _, _, _, _, _, _, _, fun ρ k => rfl⟩
theorem isSo_l6 {P : Nat} (hP : P ≤ 6) {base : Nat → Int32} : ∀ (d i n : Nat) (z : Nat → Int32), i + d = P → d < n → (∀ p, p < i → z p = nI p) → (∀ k, 6 ≤ k → z k = base k) → ∃ z', (∀ (ρ : Type) (k : (Nat → Int32) → Option ρ), f_X8_isSo_l6 (nI P) k n (nI i) z = k z') ∧ (∀ p, p < P → z' p = nI p) ∧ ∀ k, 6 ≤ k → z' k = base k := by
  intro d
  induction d with
  | zero =>
    intro i n z h1 hn h2 h3
    obtain ⟨n, rfl⟩ := succ_of hn
    obtain rfl : i = P := by omega
    exact ⟨z, fun ρ k => by rw [f_X8_isSo_l6, if_pos (nI_le (Nat.le_refl _) (by omega))], h2, h3⟩
  | succ d ih =>
    intro i n z h1 hn h2 h3
    obtain ⟨n, rfl⟩ := succ_of hn
    obtain ⟨z', e1, e2⟩ := ih (i + 1) n (upd z i (nI i)) (by omega) (by omega) (fun p hp => by
      by_cases e : p = i
      · subst e; exact upd_s _ _ _
      · rw [upd_n e]; exact h2 p (by omega)) (fun k hk => by rw [upd_n (by omega)]; exact h3 k hk)
    refine ⟨z', fun ρ k => ?_, e2⟩
    rw [f_X8_isSo_l6, if_neg (nI_ge (by omega) (by omega)), Int32.zero_add, ivi_n (show i < 25 by omega) (by decide), ck_t, cl (by omega), nI_1]
    exact e1 ρ k
theorem three (j : Nat) : (3 : Int32) * nI j = nI (3 * j) := pk_mul 3 j
theorem isSo_e {N : Nat} (hN : 200000 ≤ N) {P t c : Nat} {WL : Nat → List Nat} {WT TS TP TH bt : Nat → Nat} {wm ws weight st : Nat → Int32} (H : HM P WL WT wm ws weight) (hc : c ≤ 8) {w : Nat} (hw : w ≤ 2) {tset twho thour mtold : Nat → Int32} (T : TL P t TS TP TH tset twho thour mtold) (h13 : st 13 = nI c) (hbt : ∀ k, k < c → st (14 + k) = nI (bt k)) {j : Nat} (hj : j < t) (now gave at_ : Nat → Int32) : ∃ kr kl now' gave' at', ∀ (ρ : Type) (k : Int32 → Int32 → Int32 → (Nat → Int32) → (Nat → Int32) → (Nat → Int32) → Option ρ), f_X8_isSo N (nI P) st now mtold gave wm ws weight at_ (nI j) (nI w) k = k (if soF P WL WT TS TP TH w j then 1 else 0) kr kl now' gave' at' := by
  have hP := H.hP
  have ht6 := T.t6
  have hpP := T.pP j hj
  have hhP := T.hP j hj
  obtain ⟨z, e1, e2, e3⟩ := isSo_l6 hP (base := blt now st 0 0 25) P 0 N (blt now st 0 0 25) (by omega) (by omega) (fun p hp => absurd hp (by omega)) (fun k _ => rfl)
  obtain ⟨y1, y2, y3, f1, f2⟩ := goes_e hN (bt := bt) (hs := fun i => i) H hc hw (T.sP j hj) (fun p hp _ => hp) (fun p q _ _ _ _ e => e) e2 (by rw [e3 13 (by omega), asIt_at _ _ (by omega)]; exact h13) (fun k hk => by rw [e3 (14 + k) (by omega), asIt_at _ _ (by omega)]; exact hbt k hk) gave at_
  have F := ownF (WL := WL) (WT := WT) (w := w) hP (T.sP j hj)
  have hnow := now_p F f2 hpP
  rw [T.bp j hj, if_pos rfl] at hnow
  refine ⟨nI (Nt P WL WT (fun i => i) w (TS j)).2.1, nI (Nt P WL WT (fun i => i) w (TS j)).2.2.1.length, y1, y2, y3, fun ρ k => ?_⟩
  unfold f_X8_isSo
  rw [asIt_e hN]
  refine (e1 ρ _).trans ?_
  unfold f_X8_isSo_e29
  rw [three, ivi_n (show 3 * j < 18 by omega) (by decide), ck_t, cl (show 3 * j < 2 ^ 31 by omega), T.ms j hj, f1, show nI (3 * j) + 1 = nI (3 * j + 1) from nI_add _ 1, ivi_n (show 3 * j + 1 < 18 by omega) (by decide), ck_t, cl (show 3 * j + 1 < 2 ^ 31 by omega), T.mp j hj, Int32.zero_add, ivi_n (show TP j < 25 by omega) (by decide), ck_t, show nI (3 * j) + 2 = nI (3 * j + 2) from nI_add _ 2, ivi_n (show 3 * j + 2 < 18 by omega) (by decide), ck_t, cl (show 3 * j + 2 < 2 ^ 31 by omega), T.mh j hj, cl (show TP j < 2 ^ 31 by omega), hnow]
  unfold soF
  by_cases hs : (Nt P WL WT (fun i => i) w (TS j)).2.2.2 (TP j) = TH j
  · rw [if_pos (show nI ((Nt P WL WT (fun i => i) w (TS j)).2.2.2 (TP j)) = nI (TH j) by rw [hs]), decide_eq_true hs]; rfl
  · rw [if_neg (show ¬ nI ((Nt P WL WT (fun i => i) w (TS j)).2.2.2 (TP j)) = nI (TH j) from fun q => hs (inj_n (by have := F.gtP (TP j); omega) (by omega) q)), decide_eq_false hs]; rfl
theorem fits_l14 {N : Nat} (hN : 200000 ≤ N) {P t c : Nat} {WL : Nat → List Nat} {WT TS TP TH bt : Nat → Nat} {wm ws weight st : Nat → Int32} (H : HM P WL WT wm ws weight) (hc : c ≤ 8) {w : Nat} (hw : w ≤ 2) {tset twho thour mtold : Nat → Int32} (T : TL P t TS TP TH tset twho thour mtold) (h13 : st 13 = nI c) (hbt : ∀ k, k < c → st (14 + k) = nI (bt k)) : ∀ (d i n : Nat) (f : Bool) (kr kl : Int32) (now gave at_ : Nat → Int32), i + d = t → d < n → ∃ kr' kl' now' gave' at', ∀ (ρ : Type) (k : Int32 → Int32 → Int32 → (Nat → Int32) → (Nat → Int32) → (Nat → Int32) → Option ρ), f_X8_fits_l14 (nI P) (nI t) st mtold wm ws weight (nI w) k N n (if f then 1 else 0) (nI i) kr kl now gave at_ = k (if f && alF (soF P WL WT TS TP TH w) d i then 1 else 0) kr' kl' now' gave' at' := by
  have hP := H.hP
  have ht6 := T.t6
  intro d
  induction d with
  | zero =>
    intro i n f kr kl now gave at_ h1 hn
    obtain ⟨n, rfl⟩ := succ_of hn
    exact ⟨kr, kl, now, gave, at_, fun ρ k => by rw [f_X8_fits_l14, if_pos (nI_le (by omega) (by omega)), alF, Bool.and_true]⟩
  | succ d ih =>
    intro i n f kr kl now gave at_ h1 hn
    obtain ⟨n, rfl⟩ := succ_of hn
    have hi : i < t := by omega
    rw [alF]
    cases f with
    | false =>
      obtain ⟨a1, a2, a3, a4, a5, ea⟩ := ih (i + 1) n false kr kl now gave at_ (by omega) (by omega)
      refine ⟨a1, a2, a3, a4, a5, fun ρ k => ?_⟩
      rw [f_X8_fits_l14, if_neg (nI_ge hi (by omega)), b01]
      unfold f_X8_fits_j41
      rw [nI_1]
      exact ea ρ k
    | true =>
      obtain ⟨r, l, y1, y2, y3, e1⟩ := isSo_e hN H hc hw T h13 hbt hi now gave at_
      obtain ⟨a1, a2, a3, a4, a5, ea⟩ := ih (i + 1) n (soF P WL WT TS TP TH w i) r l y1 y2 y3 (by omega) (by omega)
      refine ⟨a1, a2, a3, a4, a5, fun ρ k => ?_⟩
      rw [f_X8_fits_l14, if_neg (nI_ge hi (by omega)), b01, if_pos rfl, e1, b01, Bool.true_and]
      unfold f_X8_fits_j41
      rw [nI_1, ← ea ρ k]
      cases soF P WL WT TS TP TH w i <;> rfl
theorem fitsX_l4 {N : Nat} (hN : 200000 ≤ N) {P t : Nat} {WL : Nat → List Nat} {WT TS TP TH : Nat → Nat} {wc : Nat → Int32} {wanted : Nat → Nat → Int32} {weight : Nat → Int32} (H : HX P WL WT wc wanted weight) {tset twho thour mtold : Nat → Int32} (T : TL P t TS TP TH tset twho thour mtold) : ∀ (d i n : Nat) (kl kc kr : Int32) (giver got gave aims lumps : Nat → Int32), i + d = 3 → d < n → ∃ kl' kc' kr' giver' got' gave' aims' lumps', ∀ (ρ : Type) (k : Int32 → Int32 → Int32 → Int32 → (Nat → Int32) → (Nat → Int32) → (Nat → Int32) → (Nat → Int32) → (Nat → Int32) → Option ρ), f_X7_fits_l4 ownC (nI t) tset (nI P) wc wanted weight twho thour k N n (nI (bset (fun w => alF (soF P WL WT TS TP TH w) t 0) i)) (nI i) kl kc kr giver got gave aims lumps = k (nI (bset (fun w => alF (soF P WL WT TS TP TH w) t 0) 3)) kl' kc' kr' giver' got' gave' aims' lumps' := by
  have ht6 := T.t6
  intro d
  induction d with
  | zero =>
    intro i n kl kc kr giver got gave aims lumps h1 hn
    obtain ⟨n, rfl⟩ := succ_of hn
    obtain rfl : i = 3 := by omega
    exact ⟨kl, kc, kr, giver, got, gave, aims, lumps, fun ρ k => by rw [f_X7_fits_l4, if_pos (show (3 : Int32) ≤ nI 3 by decide)]⟩
  | succ d ih =>
    intro i n kl kc kr giver got gave aims lumps h1 hn
    obtain ⟨n, rfl⟩ := succ_of hn
    obtain ⟨x1, x2, x3, x4, x5, x6, x7, x8, ex⟩ := allX_l2 hN (w := i) H (by omega) T t 0 N kl kc kr giver got gave aims lumps (by omega) (by omega)
    obtain ⟨a1, a2, a3, a4, a5, a6, a7, a8, ea⟩ := ih (i + 1) n x1 x2 x3 x4 x5 x6 x7 x8 (by omega) (by omega)
    refine ⟨a1, a2, a3, a4, a5, a6, a7, a8, fun ρ k => ?_⟩
    rw [f_X7_fits_l4, if_neg (show ¬ (3 : Int32) ≤ nI i from nI_ge (b := 3) (by omega) (by omega)), f_X7_allToldIsSoBy]
    refine (ex ρ _).trans ?_
    rw [b01, nI_1, sh1 i (by omega), or_nI]
    have := ea ρ k
    rw [bset] at this
    cases e : alF (soF P WL WT TS TP TH i) t 0 with
    | true => rw [e] at this; exact this
    | false => rw [e, if_neg (by decide), Nat.or_zero] at this; exact this
theorem fitsM_l4 {N : Nat} (hN : 200000 ≤ N) {P t c : Nat} {WL : Nat → List Nat} {WT TS TP TH bt : Nat → Nat} {wm ws weight st : Nat → Int32} (H : HM P WL WT wm ws weight) (hc : c ≤ 8) {tset twho thour mtold : Nat → Int32} (T : TL P t TS TP TH tset twho thour mtold) (h13 : st 13 = nI c) (hbt : ∀ k, k < c → st (14 + k) = nI (bt k)) : ∀ (d i n : Nat) (kr kl : Int32) (now gave at_ : Nat → Int32), i + d = 3 → d < n → ∃ kr' kl' now' gave' at', ∀ (ρ : Type) (k : Int32 → Int32 → Int32 → (Nat → Int32) → (Nat → Int32) → (Nat → Int32) → Option ρ), f_X8_fits_l4 (nI P) (nI t) st mtold wm ws weight k N n (nI (bset (fun w => alF (soF P WL WT TS TP TH w) t 0) i)) (nI i) kr kl now gave at_ = k (nI (bset (fun w => alF (soF P WL WT TS TP TH w) t 0) 3)) kr' kl' now' gave' at' := by
  have ht6 := T.t6
  intro d
  induction d with
  | zero =>
    intro i n kr kl now gave at_ h1 hn
    obtain ⟨n, rfl⟩ := succ_of hn
    obtain rfl : i = 3 := by omega
    exact ⟨kr, kl, now, gave, at_, fun ρ k => by rw [f_X8_fits_l4, if_pos (show (3 : Int32) ≤ nI 3 by decide)]⟩
  | succ d ih =>
    intro i n kr kl now gave at_ h1 hn
    obtain ⟨n, rfl⟩ := succ_of hn
    obtain ⟨y1, y2, y3, y4, y5, ey⟩ := fits_l14 hN (w := i) H hc (by omega) T h13 hbt t 0 N true kr kl now gave at_ (by omega) (by omega)
    obtain ⟨a1, a2, a3, a4, a5, ea⟩ := ih (i + 1) n y1 y2 y3 y4 y5 (by omega) (by omega)
    refine ⟨a1, a2, a3, a4, a5, fun ρ k => ?_⟩
    rw [f_X8_fits_l4, if_neg (show ¬ (3 : Int32) ≤ nI i from nI_ge (b := 3) (by omega) (by omega))]
    refine (ey ρ _).trans ?_
    unfold f_X8_fits_e49 f_X8_fits_j61
    rw [Bool.true_and, b01, nI_1, sh1 i (by omega), or_nI]
    have := ea ρ k
    rw [bset] at this
    cases e : alF (soF P WL WT TS TP TH i) t 0 with
    | true => rw [e] at this; exact this
    | false =>
      rw [e, if_neg (by decide)] at this
      rw [if_neg (by decide), show (0 : Int32) = nI 0 from rfl, or_nI]
      exact this
set_option maxHeartbeats 2000000 in
theorem st_fits {N : Nat} (hN : 200000 ≤ N) : St_fits N Rel := by
  intro x_told x_marks xs_length xs_place xs_tokenPlace xs_token xs_value xs_lawTold xsd_size xsd_law xsd_weight xsd_nights xsd_wanted xsd_wantCount xsd_wantBits xs_letters xp_size xp_law xp_weight xp_nights xp_wanted xp_wantCount xp_wantBits xh_bitCount xh_given xh_made xh_gone xh_law xh_has xh_left xh_bits xy_next xy_known xyr_has xyr_left xyr_bits xyr_bitCount xyr_given xyr_made xyr_gone xyr_law x_kept xk_left xk_lumpCount xk_ringed xk_gave xk_giver xk_aims xk_got xk_lumps xg_hours xg_best xu_sums xu_hours x_toldSet x_toldWho x_toldHour xm_has xm_left xm_bits xm_bitCount xm_given xm_made xm_gone xm_law m_people m_known m_toldMany m_trace m_texted m_cursor m_start m_token m_number m_isWrong m_items m_saidPeople m_saidLaw m_ringed m_lumps m_weight m_wants m_wantsMany m_st m_was m_images m_isKept m_told m_text m_saidWeight m_saidNights m_saidWants m_saidMany m_now m_gave m_at m_way m_bestWay m_made hR
  obtain ⟨P, WL, WT, ht, hp, ha, hy, hi, ho, hm, hg⟩ := hR
  have hp' := hp
  have ha' := ha
  have ho' := ho
  obtain ⟨hP, rfl, rfl, hw, hl⟩ := hp
  obtain ⟨hs, lf, bt, g, c, n, w, b1, b2, b3, b4, ⟨g1, g2, g3, g4⟩, ⟨c1, c2, c3, c4⟩, b7, ⟨n1, n2, n3⟩, ⟨w1, w2, w3⟩⟩ := ha
  obtain ⟨t, TS, TP, TH, rfl, rfl, T⟩ := Ro_TL hP ho
  unfold f_X7_fits f_X8_fits
  obtain ⟨x1, x2, x3, x4, x5, x6, x7, x8, ex⟩ := fitsX_l4 hN (Rp_HX hp') T 3 0 N xk_left xk_lumpCount xk_ringed xk_giver xk_got xk_gave xk_aims xk_lumps (by omega) (by omega)
  obtain ⟨y1, y2, y3, y4, y5, ey⟩ := fitsM_l4 hN (bt := bt) (Rp_HM hp') c1 T c3 (fun k hk => (c4 k hk).2.2.2) 3 0 N m_ringed m_lumps m_now m_gave m_at (by omega) (by omega)
  exact ⟨_, _, _, _, _, _, _, _, _, _, _, _, _, _, ex _ _, ey _ _, P, WL, WT, ht, hp', ha', hy, hi, ho', hm, hg⟩

