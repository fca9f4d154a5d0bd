/-! 33.silk: the class's night -/
def enc (a : Nat) : Int32 := if a = 6 then -1 else nI a
def enc9 (a : Nat) : Int32 := if a = 6 then -9 else nI a
theorem enc_n {a : Nat} (h : a ≠ 6) : enc a = nI a := if_neg h
theorem enc_eq {a : Nat} (h : a ≤ 6) : enc a = (-1 : Int32) ↔ a = 6 := by
  by_cases e : a = 6
  · subst e; exact ⟨fun _ => rfl, fun _ => rfl⟩
  · rw [enc_n e]; exact ⟨fun q => absurd q (m1 (by omega)), fun q => absurd q e⟩
theorem absX : ∀ a, a < 61 → ∀ b, b < 61 → (if 0 ≤ nI a - nI b then nI a - nI b else 0 - (nI a - nI b)) = nI (absd a b) := by decide +kernel
theorem getD_mem {l : List Nat} {k : Nat} (h : k < l.length) : l.getD k 0 ∈ l := by
  rw [List.getD_eq_getElem?_getD, List.getElem?_eq_getElem h]
  exact List.getElem_mem h
theorem absd_le {a b : Nat} (ha : a ≤ 60) (hb : b ≤ 60) : absd a b ≤ 60 := by unfold absd; split <;> omega
abbrev HX (P : Nat) (WL : Nat → List Nat) (WT : Nat → Nat) (wc : Nat → Int32) (wanted : Nat → Nat → Int32) (weight : Nat → Int32) : Prop := (P ≤ 6) ∧ (∀ p, p < P → (WL p).length ≤ 4) ∧ (∀ p, p < P → ∀ h, h ∈ WL p → h < P) ∧ (∀ p, p < P → wc p = nI (WL p).length) ∧ (∀ p, p < P → ∀ k, k < (WL p).length → wanted p k = nI ((WL p).getD k 0)) ∧ (∀ p, p < P → WT p ≤ 60) ∧ (∀ p, p < P → weight p = nI (WT p))
theorem HX.hP {P : Nat} {WL : Nat → List Nat} {WT : Nat → Nat} {wc : Nat → Int32} {wanted : Nat → Nat → Int32} {weight : Nat → Int32} (zz : HX P WL WT wc wanted weight) : P ≤ 6 := zz.1
theorem HX.l4 {P : Nat} {WL : Nat → List Nat} {WT : Nat → Nat} {wc : Nat → Int32} {wanted : Nat → Nat → Int32} {weight : Nat → Int32} (zz : HX P WL WT wc wanted weight) : ∀ p, p < P → (WL p).length ≤ 4 := zz.2.1
theorem HX.lP {P : Nat} {WL : Nat → List Nat} {WT : Nat → Nat} {wc : Nat → Int32} {wanted : Nat → Nat → Int32} {weight : Nat → Int32} (zz : HX P WL WT wc wanted weight) : ∀ p, p < P → ∀ h, h ∈ WL p → h < P := zz.2.2.1
theorem HX.cw {P : Nat} {WL : Nat → List Nat} {WT : Nat → Nat} {wc : Nat → Int32} {wanted : Nat → Nat → Int32} {weight : Nat → Int32} (zz : HX P WL WT wc wanted weight) : ∀ p, p < P → wc p = nI (WL p).length := zz.2.2.2.1
theorem HX.wd {P : Nat} {WL : Nat → List Nat} {WT : Nat → Nat} {wc : Nat → Int32} {wanted : Nat → Nat → Int32} {weight : Nat → Int32} (zz : HX P WL WT wc wanted weight) : ∀ p, p < P → ∀ k, k < (WL p).length → wanted p k = nI ((WL p).getD k 0) := zz.2.2.2.2.1
theorem HX.w60 {P : Nat} {WL : Nat → List Nat} {WT : Nat → Nat} {wc : Nat → Int32} {wanted : Nat → Nat → Int32} {weight : Nat → Int32} (zz : HX P WL WT wc wanted weight) : ∀ p, p < P → WT p ≤ 60 := zz.2.2.2.2.2.1
theorem HX.wt {P : Nat} {WL : Nat → List Nat} {WT : Nat → Nat} {wc : Nat → Int32} {wanted : Nat → Nat → Int32} {weight : Nat → Int32} (zz : HX P WL WT wc wanted weight) : ∀ p, p < P → weight p = nI (WT p) := zz.2.2.2.2.2.2
theorem dX_le {P : Nat} {WT : Nat → Nat} {w : Nat} {l : List Nat} {hp k : Nat} (hP : P ≤ 6) (h60 : ∀ p, p < P → WT p ≤ 60) (hl : ∀ h, h ∈ l → h < P) (h4 : l.length ≤ 4) (hhp : hp < P) (hk : k < l.length) : dX WT w l hp k ≤ 60 := by
  have h1 := hl _ (getD_mem hk)
  unfold dX
  split
  · omega
  · split
    · exact absd_le (h60 _ h1) (h60 _ hhp)
    · omega
theorem aim2_le {wh d : Nat → Nat} {l : List Nat} : ∀ {k : Nat}, (∀ j, j < k → d j ≤ 60) → (aimR wh d l k).2 ≤ 60
  | 0, _ => Nat.zero_le _
  | k + 1, h => by
    have := aim2_le (wh := wh) (l := l) (fun j hj => h j (by omega) : ∀ j, j < k → d j ≤ 60)
    rw [aimR]
    split
    · exact this
    · split
      · exact h k (by omega)
      · exact this
theorem aim1_le {wh d : Nat → Nat} {l : List Nat} (hw : ∀ h, wh h ≤ 6) (k : Nat) : (aimR wh d l k).1 ≤ 6 := by
  rcases aim_val wh d l k with q | ⟨j, _, _, q⟩
  · omega
  · rw [q]; exact hw _
theorem distance_e {ρ : Type} (N : Nat) {P : Nat} {WL : Nat → List Nat} {WT : Nat → Nat} {wc : Nat → Int32} {wanted : Nat → Nat → Int32} {weight gave : Nat → Int32} (H : HX P WL WT wc wanted weight) {p k w hp : Nat} (hpP : p < P) (hk : k < (WL p).length) (hw : w ≤ 2) (hg : gave p = nI hp) (hhp : hp < P) (K : Int32 → Option ρ) : f_X6_distance N wanted weight gave (nI p) (nI k) (nI w) K = K (nI (dX WT w (WL p) hp k)) := by
  have hP := H.hP
  have h4 := H.l4 p hpP
  have h1 := H.lP p hpP _ (getD_mem hk)
  unfold f_X6_distance dX
  rw [ivi_n (show p < 6 by omega) (by decide), ck_t, ivi_n (show k < 4 by omega) (by decide), ck_t, cl (show p < 2 ^ 31 by omega), cl (show k < 2 ^ 31 by omega), H.wd p hpP k hk, hg, ck_t, ivi_n (show (WL p).getD k 0 < 6 by omega) (by decide), ivi_n (show hp < 6 by omega) (by decide), ck_t, ck_t, cl (show (WL p).getD k 0 < 2 ^ 31 by omega), cl (show hp < 2 ^ 31 by omega), H.wt _ h1, H.wt _ hhp, absX _ (by have := H.w60 _ h1; omega) _ (by have := H.w60 _ hhp; omega)]
  rcases (show w = 0 ∨ w = 1 ∨ w = 2 by omega) with rfl | rfl | rfl
  · rw [if_pos rfl, if_pos (show nI 0 = (0 : Int32) from rfl)]
  · rw [if_neg (show ¬ 1 = 0 by decide), if_neg (show ¬ nI 1 = (0 : Int32) by decide), if_pos rfl, if_pos (show nI 1 = (1 : Int32) from rfl)]
  · rw [if_neg (show ¬ 2 = 0 by decide), if_neg (show ¬ nI 2 = (0 : Int32) by decide), if_neg (show ¬ 2 = 1 by decide), if_neg (show ¬ nI 2 = (1 : Int32) by decide)]
theorem aimOf_l8 {ρ : Type} (N : Nat) {P : Nat} {WL : Nat → List Nat} {WT : Nat → Nat} {wc : Nat → Int32} {wanted : Nat → Nat → Int32} {weight gave giver : Nat → Int32} (H : HX P WL WT wc wanted weight) {p w hp : Nat} (hpP : p < P) (hw : w ≤ 2) (hg : gave p = nI hp) (hhp : hp < P) {wh : Nat → Nat} (hwh : ∀ h, wh h ≤ 6) (hgv : ∀ h, h < P → giver h = enc (wh h)) (K : Int32 → Option ρ) : ∀ (d k n : Nat), k + d = (WL p).length → d < n → f_X6_aimOf_l8 (nI p) (nI w) wc wanted giver weight gave K N n (enc (aimR wh (dX WT w (WL p) hp) (WL p) k).1) (nI (aimR wh (dX WT w (WL p) hp) (WL p) k).2) (nI k) = K (enc (aimR wh (dX WT w (WL p) hp) (WL p) (WL p).length).1) := by
  have hP := H.hP
  have h4 := H.l4 p hpP
  intro d
  induction d with
  | zero =>
    intro k n h1 hn
    obtain ⟨n, rfl⟩ := succ_of hn
    obtain rfl : k = (WL p).length := by omega
    rw [f_X6_aimOf_l8, ivi_n (show p < 6 by omega) (by decide), ck_t, cl (show p < 2 ^ 31 by omega), H.cw p hpP, if_pos (nI_le (Nat.le_refl _) (by omega))]
  | succ d ih =>
    intro k n h1 hn
    obtain ⟨n, rfl⟩ := succ_of hn
    have hk : k < (WL p).length := by omega
    have hh := H.lP p hpP _ (getD_mem hk)
    have key := ih (k + 1) n (by omega) (by omega)
    have hd := dX_le (w := w) hP H.w60 (H.lP p hpP) h4 hhp hk
    have h2 := aim2_le (wh := wh) (d := dX WT w (WL p) hp) (l := WL p) (k := k) (fun j hj => dX_le (w := w) hP H.w60 (H.lP p hpP) h4 hhp (show j < _ by omega))
    have h3 := aim1_le (d := dX WT w (WL p) hp) (l := WL p) hwh k
    rw [f_X6_aimOf_l8, ivi_n (show p < 6 by omega) (by decide), ck_t, cl (show p < 2 ^ 31 by omega), H.cw p hpP, if_neg (nI_ge hk (by omega)), ck_t, ivi_n (show k < 4 by omega) (by decide), ck_t, cl (show k < 2 ^ 31 by omega), H.wd p hpP k hk, ivi_n (show (WL p).getD k 0 < 6 by omega) (by decide), ck_t, cl (show (WL p).getD k 0 < 2 ^ 31 by omega), hgv _ hh, nI_1, distance_e N H hpP hk hw hg hhp]
    unfold f_X6_aimOf_j72
    rw [cl (show p < 2 ^ 31 by omega), cl (show k < 2 ^ 31 by omega), H.wd p hpP k hk, ivi_n (show (WL p).getD k 0 < 6 by omega) (by decide), ck_t, cl (show (WL p).getD k 0 < 2 ^ 31 by omega), hgv _ hh, nI_1]
    rw [aimR] at key
    by_cases q : wh ((WL p).getD k 0) = 6
    · rw [if_pos ((enc_eq (hwh _)).mpr q)]
      rw [if_pos q] at key
      exact key
    · rw [if_neg (fun h => q ((enc_eq (hwh _)).mp h))]
      rw [if_neg q] at key
      by_cases c : (aimR wh (dX WT w (WL p) hp) (WL p) k).1 = 6
      · rw [if_pos ((enc_eq h3).mpr c)]
        rw [if_pos (Or.inl c)] at key
        exact key
      · rw [if_neg (fun h => c ((enc_eq h3).mp h))]
        by_cases c2 : dX WT w (WL p) hp k < (aimR wh (dX WT w (WL p) hp) (WL p) k).2
        · rw [if_neg (nI_ge c2 (by omega))]
          rw [if_pos (Or.inr c2)] at key
          exact key
        · rw [if_pos (nI_le (by omega) (by omega))]
          rw [if_neg (fun h => h.elim c c2)] at key
          exact key
theorem aimOf_e {ρ : Type} {N : Nat} (hN : 200000 ≤ N) {P : Nat} {WL : Nat → List Nat} {WT hs : Nat → Nat} {wc : Nat → Int32} {wanted : Nat → Nat → Int32} {weight gave giver : Nat → Int32} (H : HX P WL WT wc wanted weight) {p w s : Nat} (hpP : p < P) (hw : w ≤ 2) (hg : gave p = nI (hs p)) (hhp : hs p < P) (hgv : ∀ h, h < P → giver h = enc (who hs s h P)) (K : Int32 → Option ρ) : f_X6_aimOf N wc wanted giver weight gave (nI p) (nI w) K = K (enc (aimP P WL WT hs w s p)) := by
  have h4 := H.l4 p hpP
  exact aimOf_l8 N H hpP hw hg hhp (wh := fun h => who hs s h P) (fun h => who_le H.hP) hgv K (WL p).length 0 N (by omega) (by omega)
/-- everyone points -/
theorem aimAll_l2 {N : Nat} (hN : 200000 ≤ N) {P : Nat} {WL : Nat → List Nat} {WT hs : Nat → Nat} {wc : Nat → Int32} {wanted : Nat → Nat → Int32} {weight gave giver : Nat → Int32} (H : HX P WL WT wc wanted weight) {w s : Nat} (hw : w ≤ 2) (hs1 : s < 2 ^ P) (hg : ∀ p, p < P → s.testBit p = true → gave p = nI (hs p) ∧ hs p < P) (hgv : ∀ h, h < P → giver h = enc (who hs s h P)) : ∀ (d i n : Nat) (z : Nat → Int32), i + d = P → d < n → (∀ q, q < i → dumb P WL WT hs w s q = false ∧ (s.testBit q = true → z q = nI (aimP P WL WT hs w s q))) →
    (∃ p z', p < P ∧ dumb P WL WT hs w s p = true ∧ (∀ q, q < p → dumb P WL WT hs w s q = false) ∧ ∀ (ρ : Type) (k : Int32 → (Nat → Int32) → Option ρ), f_X6_aimAll_l2 (nI w) (nI s) (nI P) wc wanted giver weight gave k N n (nI i) z = k (nI p) z') ∨
    ∃ z', (∀ q, q < P → dumb P WL WT hs w s q = false ∧ (s.testBit q = true → z' q = nI (aimP P WL WT hs w s q))) ∧ ∀ (ρ : Type) (k : Int32 → (Nat → Int32) → Option ρ), f_X6_aimAll_l2 (nI w) (nI s) (nI P) wc wanted giver weight gave k N n (nI i) z = k (-1) z' := by
  have hP := H.hP
  have h64 := two_lt hP hs1
  intro d
  induction d with
  | zero =>
    intro i n z h1 hn hz
    obtain ⟨n, rfl⟩ := succ_of hn
    obtain rfl : i = P := by omega
    exact Or.inr ⟨z, hz, fun ρ k => by rw [f_X6_aimAll_l2, if_pos (nI_le (Nat.le_refl _) (by omega))]⟩
  | succ d ih =>
    intro i n z h1 hn hz
    obtain ⟨n, rfl⟩ := succ_of hn
    cases hb : s.testBit i with
    | false =>
      have hdf : dumb P WL WT hs w s i = false := dumb_f.mpr (fun h => by rw [hb] at h; exact absurd h (by decide))
      have e0 : ∀ (ρ : Type) (k : Int32 → (Nat → Int32) → Option ρ), f_X6_aimAll_l2 (nI w) (nI s) (nI P) wc wanted giver weight gave k N (n + 1) (nI i) z = f_X6_aimAll_l2 (nI w) (nI s) (nI P) wc wanted giver weight gave k N n (nI (i + 1)) z := fun ρ k => by
        rw [f_X6_aimAll_l2, if_neg (nI_ge (by omega) (by omega)), holds_n N (by omega) (by omega), b01, hb, nI_1]; rfl
      simp only [e0]
      refine ih (i + 1) n z (by omega) (by omega) (fun q hq => ?_)
      by_cases e : q = i
      · subst e; exact ⟨hdf, fun h => by rw [hb] at h; exact absurd h (by decide)⟩
      · exact hz q (by omega)
    | true =>
      obtain ⟨g1, g2⟩ := hg i (by omega) hb
      have e0 : ∀ (ρ : Type) (k : Int32 → (Nat → Int32) → Option ρ), f_X6_aimAll_l2 (nI w) (nI s) (nI P) wc wanted giver weight gave k N (n + 1) (nI i) z = if enc (aimP P WL WT hs w s i) = -1 then k (nI i) (upd z i (enc (aimP P WL WT hs w s i))) else f_X6_aimAll_l2 (nI w) (nI s) (nI P) wc wanted giver weight gave k N n (nI (i + 1)) (upd z i (enc (aimP P WL WT hs w s i))) := fun ρ k => by
        rw [f_X6_aimAll_l2, if_neg (nI_ge (by omega) (by omega)), holds_n N (by omega) (by omega), b01, hb, if_pos rfl, aimOf_e hN H (by omega) hw g1 g2 hgv, ivi_n (show i < 6 by omega) (by decide), ck_t, ck_t, cl (by omega), upd_s, nI_1]
      simp only [e0]
      by_cases e6 : aimP P WL WT hs w s i = 6
      · exact Or.inl ⟨i, _, by omega, dumb_t.mpr ⟨hb, e6⟩, fun q hq => (hz q hq).1, fun ρ k => if_pos (show enc (aimP P WL WT hs w s i) = -1 by rw [e6]; rfl)⟩
      · have h6 := (aimP_in hP e6).1
        rw [enc_n e6]
        simp only [if_neg (show ¬ nI (aimP P WL WT hs w s i) = (-1 : Int32) from m1 (by omega))]
        refine ih (i + 1) n (upd z i (nI (aimP P WL WT hs w s i))) (by omega) (by omega) (fun q hq => ?_)
        by_cases e : q = i
        · subst e; exact ⟨dumb_f.mpr (fun _ => e6), fun _ => upd_s _ _ _⟩
        · rw [upd_n e]; exact hz q (by omega)
theorem lowL {ρ : Type} (N : Nat) {s q : Nat} (hs : s < 64) (hq : q < 6) (h1 : s.testBit q = true) (h2 : ∀ p, p < q → s.testBit p = false) (k : Int32 → Option ρ) : ∀ (d i n : Nat), i + d = q → d < n → f_X6_lowestLeft_l2 (nI s) k N n (nI i) = k (nI q) := by
  intro d
  induction d with
  | zero =>
    intro i n h3 hn
    obtain ⟨n, rfl⟩ := succ_of hn
    obtain rfl : i = q := by omega
    rw [f_X6_lowestLeft_l2]
    by_cases e : i = 5
    · subst e; rw [if_pos (show (5 : Int32) ≤ nI 5 by decide)]; rfl
    · rw [if_neg (show ¬ (5 : Int32) ≤ nI i from nI_ge (b := 5) (by omega) (by omega)), holds_n N (by omega) (by omega), b01, h1]; rfl
  | succ d ih =>
    intro i n h3 hn
    obtain ⟨n, rfl⟩ := succ_of hn
    rw [f_X6_lowestLeft_l2, if_neg (show ¬ (5 : Int32) ≤ nI i from nI_ge (b := 5) (by omega) (by omega)), holds_n N (by omega) (by omega), b01, h2 i (by omega), nI_1]
    exact ih (i + 1) n (by omega) (by omega)
theorem round_l7 {ρ : Type} {aims : Nat → Int32} {nx : Nat → Nat} {s q : Nat} (hs : ∀ p, s.testBit p = true → p < 6 ∧ aims p = nI (nx p)) (hin : ∀ p, s.testBit p = true → s.testBit (nx p) = true) (hq : s.testBit q = true) (k : Int32 → Option ρ) : ∀ (d i n : Nat), i + d = 6 → d < n → f_X6_goRound_l7 aims k n (nI (it nx i q)) (nI i) = k (nI (it nx 6 q)) := by
  intro d
  induction d with
  | zero =>
    intro i n h3 hn
    obtain ⟨n, rfl⟩ := succ_of hn
    obtain rfl : i = 6 := by omega
    rw [f_X6_goRound_l7, if_pos (show (6 : Int32) ≤ nI 6 by decide)]
  | succ d ih =>
    intro i n h3 hn
    obtain ⟨n, rfl⟩ := succ_of hn
    have h4 := hs _ (it_in hin hq i)
    rw [f_X6_goRound_l7, if_neg (show ¬ (6 : Int32) ≤ nI i from nI_ge (b := 6) (by omega) (by omega)), ivi_n h4.1 (by decide), ck_t, cl (by omega), h4.2, nI_1]
    exact ih (i + 1) n (by omega) (by omega)
theorem dif_or (s a b : Nat) : dif s (a ||| b) = dif (dif s a) b := Nat.eq_of_testBit_eq (fun i => by
  simp only [dif_bit, Nat.testBit_or, Bool.not_or, Bool.and_assoc])
theorem dif_0 (s : Nat) : dif s 0 = s := Nat.eq_of_testBit_eq (fun i => by simp [dif_bit])
theorem round_l30 {N : Nat} {P : Nat} (hP : P ≤ 6) {aims gave : Nat → Int32} {hs nx gt : Nat → Nat} {s r e : Nat} (hs1 : s < 2 ^ P) (hna : ∀ p, s.testBit p = true → aims p = nI (nx p) ∧ gave p = nI (hs p) ∧ hs p < P) (hinj : ∀ p q, p < P → q < P → s.testBit p = true → s.testBit q = true → hs p = hs q → p = q) (hin : ∀ p, s.testBit p = true → s.testBit (nx p) = true) (hr : s.testBit r = true) (he : e ≤ 6) (he1 : (col nx r e).testBit (it nx e r) = true) (he2 : ∀ m, m < e → (col nx r m).testBit (it nx m r) = false) : ∀ (d j n : Nat) (got giver : Nat → Int32), j + d = e → d < n → (∀ p, p < 6 → got p = enc9 (if (col nx r j).testBit p then hs (nx p) else gt p)) → (∀ h, h < P → giver h = enc (who hs (dif s (col nx r j)) h P)) → ∃ got' giver', (∀ (ρ : Type) (k : Int32 → Int32 → (Nat → Int32) → (Nat → Int32) → Option ρ), f_X6_goRound_l30 aims gave k N n (nI (it nx j r)) (nI (col nx r j)) (nI j) (nI (dif s (col nx r j))) got giver = k (nI (col nx r e)) (nI (dif s (col nx r e))) got' giver') ∧ (∀ p, p < 6 → got' p = enc9 (if (col nx r e).testBit p then hs (nx p) else gt p)) ∧ ∀ h, h < P → giver' h = enc (who hs (dif s (col nx r e)) h P) := by
  have h64 := two_lt hP hs1
  have hcs : ∀ j, sub (col nx r j) s := fun j p hp => by
    obtain ⟨i, _, h2⟩ := (col_bit nx r p j).mp hp
    rw [← h2]; exact it_in hin hr i
  have hc64 : ∀ j, col nx r j < 64 := fun j => Nat.lt_of_le_of_lt (sub_le (hcs j)) h64
  intro d
  induction d with
  | zero =>
    intro j n got giver h1 hn hgot hgiv
    obtain ⟨n, rfl⟩ := succ_of hn
    obtain rfl : j = e := by omega
    refine ⟨got, giver, fun ρ k => ?_, hgot, hgiv⟩
    rw [f_X6_goRound_l30]
    by_cases q : j = 6
    · rw [if_pos (show (6 : Int32) ≤ nI j by rw [q]; decide)]
    · have h2 := it_in hin hr j
      have h3 := bit_lt hs1 h2
      rw [if_neg (show ¬ (6 : Int32) ≤ nI j from nI_ge (b := 6) (by omega) (by omega)), holds_n N (by have := hc64 j; omega) (by omega), b01, he1]; rfl
  | succ d ih =>
    intro j n got giver h1 hn hgot hgiv
    obtain ⟨n, rfl⟩ := succ_of hn
    have h2 := it_in hin hr j
    have h3 := bit_lt hs1 h2
    have h2n := hin _ h2
    have h3n := bit_lt hs1 h2n
    obtain ⟨a1, a2, a3⟩ := hna _ h2
    obtain ⟨b1, b2, b3⟩ := hna _ h2n
    have hnot := he2 j (by omega)
    obtain ⟨got', giver', e1, e2⟩ := ih (j + 1) n (upd got (it nx j r) (nI (hs (nx (it nx j r))))) (upd giver (hs (it nx j r)) (-1)) (by omega) (by omega) (fun p hp => by
        rw [col, Nat.testBit_or, Nat.testBit_two_pow]
        by_cases q : p = it nx j r
        · subst q
          rw [upd_s, decide_eq_true rfl, Bool.or_true, if_pos rfl]
          exact (if_neg (by omega)).symm
        · rw [upd_n q, decide_eq_false (fun h => q h.symm), Bool.or_false]; exact hgot p hp) (fun h hh => by
        rw [col, dif_or, who_out (fun q hq1 hq2 hq3 => hinj q _ hq1 h3 (sub_dif _ _ q hq2) h2 hq3) (Or.inl ⟨h3, by rw [dif_bit, h2, hnot]; rfl⟩) hP]
        by_cases q : h = hs (it nx j r)
        · rw [q, upd_s, if_pos ⟨h3, rfl⟩]; rfl
        · rw [upd_n q, if_neg (fun h' => q h'.2)]; exact hgiv h hh)
    refine ⟨got', giver', fun ρ k => ?_, e2⟩
    have hdl := dif_le s (col nx r j)
    rw [f_X6_goRound_l30, if_neg (show ¬ (6 : Int32) ≤ nI j from nI_ge (b := 6) (by omega) (by omega)), holds_n N (by have := hc64 j; omega) (by omega), b01, hnot]
    unfold f_X6_letOut
    simp only [Bool.false_eq_true, if_false, ivi_n (show it nx j r < 6 by omega) (by decide), ck_t, cl (show it nx j r < 2 ^ 31 by omega), a1, ivi_n (show nx (it nx j r) < 6 by omega) (by decide), a2, ivi_n (show hs (it nx j r) < 6 by omega) (by decide), cl (show hs (it nx j r) < 2 ^ 31 by omega), cl (show nx (it nx j r) < 2 ^ 31 by omega), b2, nI_1, sh1 (it nx j r) (by omega), or_nI, andn (2 ^ it nx j r) (show dif s (col nx r j) < 2 ^ 31 by omega)]
    have := e1 ρ k
    rw [col, dif_or] at this
    exact this
/-- a ring goes out -/
theorem goRound_e {N : Nat} (hN : 200000 ≤ N) {P : Nat} (hP : P ≤ 6) {aims gave got giver : Nat → Int32} {hs nx gt : Nat → Nat} {s q : Nat} {rg : Nat} (hs1 : s < 2 ^ P) (hna : ∀ p, s.testBit p = true → aims p = nI (nx p) ∧ gave p = nI (hs p) ∧ hs p < P) (hinj : ∀ p q, p < P → q < P → s.testBit p = true → s.testBit q = true → hs p = hs q → p = q) (hin : ∀ p, s.testBit p = true → s.testBit (nx p) = true) (hq : s.testBit q = true) (hq2 : ∀ p, p < q → s.testBit p = false) (hgot : ∀ p, p < 6 → got p = enc9 (gt p)) (hgiv : ∀ h, h < P → giver h = enc (who hs s h P)) : ∃ got' giver', (∀ (ρ : Type) (k : Int32 → Int32 → (Nat → Int32) → (Nat → Int32) → Option ρ), f_X6_goRound N (nI s) (nI rg) aims gave got giver k = k (nI (dif s (ringS nx q))) (nI (rg ||| ringS nx q)) got' giver') ∧ (∀ p, p < 6 → got' p = enc9 (if (ringS nx q).testBit p then hs (nx p) else gt p)) ∧ ∀ h, h < P → giver' h = enc (who hs (dif s (ringS nx q)) h P) := by
  have h64 := two_lt hP hs1
  have hq6 := bit_lt hs1 hq
  have h6 : ∀ n, it nx n (it nx 6 q) < 6 := fun n => by
    rw [← it_add]
    have := bit_lt hs1 (it_in hin hq (n + 6)); omega
  obtain ⟨e, he, he1, he2⟩ := rep_ex h6
  obtain ⟨got', giver', e1, e2, e3⟩ := round_l30 (N := N) (gt := gt) hP hs1 hna hinj hin (it_in hin hq 6) he he1 he2 e 0 N got giver (by omega) (by omega) (fun p hp => by rw [col, Nat.zero_testBit]; exact hgot p hp) (fun h hh => by rw [col, dif_0]; exact hgiv h hh)
  rw [col_6 he he1] at e1 e2 e3
  refine ⟨got', giver', fun ρ k => ?_, e2, e3⟩
  unfold f_X6_goRound f_X6_lowestLeft
  rw [show (0 : Int32) = nI 0 from rfl, lowL N h64 (by omega) hq hq2 _ q 0 N (by omega) (by omega)]
  have h7 := round_l7 (ρ := ρ) (aims := aims) (fun p hp => ⟨by have := bit_lt hs1 hp; omega, (hna p hp).1⟩) hin hq (fun y1_e26 => f_X6_goRound_e26 got (nI s) giver (nI rg) aims gave k N y1_e26) 6 0 N (by omega) (by omega)
  refine h7.trans ?_
  unfold f_X6_goRound_e26
  have h8 := e1 ρ (fun y2_e85 z_left_e85 z_got_e85 z_giver_e85 => f_X6_goRound_e85 (nI rg) k y2_e85 z_left_e85 z_got_e85 z_giver_e85)
  rw [col, dif_0] at h8
  refine h8.trans ?_
  unfold f_X6_goRound_e85
  rw [or_nI]; rfl
/-- the rounds -/
theorem play_l9 {N : Nat} (hN : 200000 ≤ N) {P g : Nat} {WL : Nat → List Nat} {WT hs : Nat → Nat} {wc : Nat → Int32} {wanted : Nat → Nat → Int32} {weight gave : Nat → Int32} (H : HX P WL WT wc wanted weight) {w : Nat} (hw : w ≤ 2) (hgv : ∀ p, p < P → g.testBit p = true → gave p = nI (hs p)) : ∀ (d j n : Nat) (σ : NS) (giver got aims lumps : Nat → Int32), j + d = 6 → popc σ.1 6 ≤ d → d < n → NI P g hs σ → (∀ h, h < P → giver h = enc (who hs σ.1 h P)) → (∀ p, p < 6 → got p = enc9 (σ.2.2.2 p)) → (∀ i, i < σ.2.2.1.length → lumps i = nI (σ.2.2.1.getD i 0)) → ∃ giver' got' aims' lumps', (∀ (ρ : Type) (k : Int32 → Int32 → Int32 → (Nat → Int32) → (Nat → Int32) → (Nat → Int32) → (Nat → Int32) → Option ρ), f_X6_play_l9 (nI w) (nI P) wc wanted weight gave k N n (nI j) (nI σ.1) (nI σ.2.2.1.length) (nI σ.2.1) giver got aims lumps = k (nI (nightF P WL WT hs w d σ).1) (nI (nightF P WL WT hs w d σ).2.2.1.length) (nI (nightF P WL WT hs w d σ).2.1) giver' got' aims' lumps') ∧ (∀ p, p < 6 → got' p = enc9 ((nightF P WL WT hs w d σ).2.2.2 p)) ∧ (∀ i, i < (nightF P WL WT hs w d σ).2.2.1.length → lumps' i = nI ((nightF P WL WT hs w d σ).2.2.1.getD i 0)) := by
  have hP := H.hP
  intro d
  induction d with
  | zero =>
    intro j n σ giver got aims lumps h1 hpc hn I hgi hgo hlu
    obtain ⟨n, rfl⟩ := succ_of hn
    obtain rfl : j = 6 := by omega
    exact ⟨giver, got, aims, lumps, fun ρ k => by rw [f_X6_play_l9, if_pos (show (6 : Int32) ≤ nI 6 by decide)]; rfl, hgo, hlu⟩
  | succ d ih =>
    intro j n σ giver got aims lumps h1 hpc hn I hgi hgo hlu
    obtain ⟨n, rfl⟩ := succ_of hn
    rw [nightF]
    by_cases h0 : σ.1 = 0
    · rw [if_pos h0]
      exact ⟨giver, got, aims, lumps, fun ρ k => by rw [f_X6_play_l9, if_neg (show ¬ (6 : Int32) ≤ nI j from nI_ge (b := 6) (by omega) (by omega)), h0, if_pos (show nI 0 = (0 : Int32) from rfl)], hgo, hlu⟩
    rw [if_neg h0]
    have hsP := sub_lt hP I.sg I.gP
    have h64 := two_lt hP hsP
    have hround := NI_round (WL := WL) (WT := WT) (w := w) hP I h0
    have hsg : ∀ p, p < P → σ.1.testBit p = true → gave p = nI (hs p) ∧ hs p < P := fun p hp hb => ⟨hgv p hp (I.sg p hb), I.hgl p hp (I.sg p hb)⟩
    have hinj : ∀ p q, p < P → q < P → σ.1.testBit p = true → σ.1.testBit q = true → hs p = hs q → p = q := fun p q a1 a2 a3 a4 => I.hgi p q a1 a2 (I.sg p a3) (I.sg q a4)
    have e00 : ∀ (ρ : Type) (k : Int32 → Int32 → Int32 → (Nat → Int32) → (Nat → Int32) → (Nat → Int32) → (Nat → Int32) → Option ρ), f_X6_play_l9 (nI w) (nI P) wc wanted weight gave k N (n + 1) (nI j) (nI σ.1) (nI σ.2.2.1.length) (nI σ.2.1) giver got aims lumps = _ := fun ρ k => by rw [f_X6_play_l9, if_neg (show ¬ (6 : Int32) ≤ nI j from nI_ge (b := 6) (by omega) (by omega)), if_neg (nI_ne0 (Nat.pos_of_ne_zero h0) (by omega)), f_X6_aimAll]
    rcases aimAll_l2 hN H hw hsP hsg hgi P 0 N aims (by omega) (by omega) (fun q hq => absurd hq (by omega)) with ⟨p, z', hp, d1, d2, e1⟩ | ⟨z', d1, e1⟩
    · have hb := (dumb_t.mp d1).1
      obtain ⟨g1, g2⟩ := hsg p hp hb
      rw [round_dumb hp d1 d2] at hround ⊢
      have hLen := I.len
      have hpp := popc_pos hb (show p < 6 by omega)
      have hp6 := popc_le g 6
      obtain ⟨giver', got', aims', lumps', q1, q2, q3⟩ := ih (j + 1) n _ (upd giver (hs p) (-1)) got z' (upd lumps σ.2.2.1.length (nI (hs p))) (by omega) (by have := hround.2; dsimp only at *; omega) (by omega) hround.1 (fun h hh => by
          dsimp only
          rw [who_out (fun q hq1 hq2 hq3 => hinj q _ hq1 hp hq2 hb hq3) (Or.inl ⟨hp, hb⟩) hP]
          by_cases q : h = hs p
          · rw [q, upd_s, if_pos ⟨hp, rfl⟩]; rfl
          · rw [upd_n q, if_neg (fun h' => q h'.2)]; exact hgi h hh) hgo (fun i hi => by
          dsimp only at *
          rw [List.length_append, List.length_singleton] at hi
          by_cases q : i = σ.2.2.1.length
          · subst q
            rw [upd_s, List.getD_eq_getElem?_getD, List.getElem?_append_right (Nat.le_refl _), Nat.sub_self]; rfl
          · rw [upd_n q, List.getD_eq_getElem?_getD, List.getElem?_append_left (by omega), ← List.getD_eq_getElem?_getD]
            exact hlu i (by omega))
      refine ⟨giver', got', aims', lumps', fun ρ k => ?_, q2, q3⟩
      have q1' := q1 ρ k
      dsimp only at q1'
      rw [← q1', e00, show (0 : Int32) = nI 0 from rfl, e1, if_neg (m1 (by omega))]
      unfold f_X6_smash f_X6_letOut
      rw [ivi_n (show p < 6 by omega) (by decide), ck_t, ivi_n (show σ.2.2.1.length < 6 by omega) (by decide), ck_t, ck_t, cl (show p < 2 ^ 31 by omega), g1, ivi_n (show hs p < 6 by omega) (by decide), ck_t, cl (show hs p < 2 ^ 31 by omega), cl (show σ.2.2.1.length < 2 ^ 31 by omega), nI_1, nI_1, sh1 _ (by omega), andn _ (by omega), List.length_append, List.length_singleton]
    · rcases low_cases (fun p => σ.1.testBit p) P with hz | ⟨q, hq, h1', h2⟩
      · exact absurd (zero_of hsP hz) h0
      have hdm : ∀ q, q < P → dumb P WL WT hs w σ.1 q = false := fun q hq => (d1 q hq).1
      have hin := aim_in (g := g) hP hsP hdm
      rw [round_ring hdm hq h1' h2] at hround ⊢
      obtain ⟨got1, giver1, r1, r2, r3⟩ := goRound_e hN hP (aims := z') (gave := gave) (gt := σ.2.2.2) (rg := σ.2.1) hsP (fun p hb => ⟨(d1 p (bit_lt hsP hb)).2 hb, hsg p (bit_lt hsP hb) hb⟩) hinj hin h1' h2 hgo hgi
      obtain ⟨giver', got', aims', lumps', q1, q2, q3⟩ := ih (j + 1) n _ giver1 got1 z' lumps (by omega) (by have := hround.2; dsimp only at *; omega) (by omega) hround.1 r3 r2 hlu
      refine ⟨giver', got', aims', lumps', fun ρ k => ?_, q2, q3⟩
      have q1' := q1 ρ k
      dsimp only at q1'
      rw [← q1', e00, show (0 : Int32) = nI 0 from rfl, e1, if_pos rfl, r1, nI_1]
/-- the watches are laid in the silk -/
theorem lay_l17 : ∀ (d i n : Nat) (giver got : Nat → Int32), i + d = 6 → d < n → (∀ h, h < i → giver h = -1 ∧ got h = -9) → ∃ giver' got', (∀ (ρ : Type) (k : (Nat → Int32) → (Nat → Int32) → Option ρ), f_X6_lay_l17 k n (nI i) giver got = k giver' got') ∧ ∀ h, h < 6 → giver' h = -1 ∧ got' h = -9 := by
  intro d
  induction d with
  | zero =>
    intro i n giver got h1 hn hh
    obtain ⟨n, rfl⟩ := succ_of hn
    obtain rfl : i = 6 := by omega
    exact ⟨giver, got, fun ρ k => by rw [f_X6_lay_l17, if_pos (show (6 : Int32) ≤ nI 6 by decide)], hh⟩
  | succ d ih =>
    intro i n giver got h1 hn hh
    obtain ⟨n, rfl⟩ := succ_of hn
    obtain ⟨giver', got', e1, e2⟩ := ih (i + 1) n (upd giver i (-1)) (upd got i (-9)) (by omega) (by omega) (fun h hi => by
      by_cases e : h = i
      · subst e; exact ⟨upd_s _ _ _, upd_s _ _ _⟩
      · rw [upd_n e, upd_n e]; exact hh h (by omega))
    refine ⟨giver', got', fun ρ k => ?_, e2⟩
    rw [f_X6_lay_l17, if_neg (show ¬ (6 : Int32) ≤ nI i from nI_ge (b := 6) (by omega) (by omega)), ivi_n (show i < 6 by omega) (by decide), ck_t, ck_t, cl (by omega), nI_1]
    exact e1 ρ k
theorem bset_self {P g : Nat} (hg : g < 2 ^ P) : bset (fun p => g.testBit p) P = g := Nat.eq_of_testBit_eq (fun i => by
  rw [bset_bit]
  by_cases h : i < P
  · rw [decide_eq_true h, Bool.true_and]
  · rw [decide_eq_false h, bit_out hg (by omega)]; rfl)
theorem lay_l46 {N : Nat} {P g : Nat} (hP : P ≤ 6) (hg : g < 2 ^ P) {hs : Nat → Nat} {has got : Nat → Int32} (hh : ∀ p, p < P → g.testBit p = true → has p = nI (hs p) ∧ hs p < P) : ∀ (d i n : Nat) (giver gave : Nat → Int32), i + d = P → d < n → (∀ h, h < P → giver h = enc (who hs g h i)) → (∀ p, p < i → g.testBit p = true → gave p = nI (hs p)) → ∃ giver' gave', (∀ (ρ : Type) (k : Int32 → Int32 → Int32 → (Nat → Int32) → (Nat → Int32) → (Nat → Int32) → Option ρ), f_X6_lay_l46 has (nI g) (nI P) got k N n (nI i) (nI (bset (fun p => g.testBit p) i)) giver gave = k (nI g) 0 0 giver' got gave') ∧ (∀ h, h < P → giver' h = enc (who hs g h P)) ∧ ∀ p, p < P → g.testBit p = true → gave' p = nI (hs p) := by
  have h64 := two_lt hP hg
  intro d
  induction d with
  | zero =>
    intro i n giver gave h1 hn h2 h3
    obtain ⟨n, rfl⟩ := succ_of hn
    obtain rfl : i = P := by omega
    exact ⟨giver, gave, fun ρ k => by rw [f_X6_lay_l46, if_pos (nI_le (Nat.le_refl _) (by omega)), bset_self hg], h2, h3⟩
  | succ d ih =>
    intro i n giver gave h1 hn h2 h3
    obtain ⟨n, rfl⟩ := succ_of hn
    cases hb : g.testBit i with
    | false =>
      obtain ⟨giver', gave', e1, e2⟩ := ih (i + 1) n giver gave (by omega) (by omega) (fun h hh => by rw [who, hb]; exact h2 h hh) (fun p hp hb2 => by
        by_cases e : p = i
        · subst e; rw [hb] at hb2; exact absurd hb2 (by decide)
        · exact h3 p (by omega) hb2)
      refine ⟨giver', gave', fun ρ k => ?_, e2⟩
      rw [f_X6_lay_l46, if_neg (nI_ge (by omega) (by omega)), holds_n N (by omega) (by omega), b01, hb, nI_1]
      have := e1 ρ k
      rw [bset, hb] at this
      simpa using this
    | true =>
      obtain ⟨g1, g2⟩ := hh i (by omega) hb
      obtain ⟨giver', gave', e1, e2⟩ := ih (i + 1) n (upd giver (hs i) (nI i)) (upd gave i (nI (hs i))) (by omega) (by omega) (fun h hh2 => by
        rw [who, hb, Bool.true_and]
        by_cases e : h = hs i
        · rw [e, upd_s, decide_eq_true rfl, if_pos rfl, enc_n (by omega)]
        · rw [upd_n e, decide_eq_false (fun q => e q.symm)]; exact h2 h hh2) (fun p hp hb2 => by
        by_cases e : p = i
        · subst e; exact upd_s _ _ _
        · rw [upd_n e]; exact h3 p (by omega) hb2)
      refine ⟨giver', gave', fun ρ k => ?_, e2⟩
      rw [f_X6_lay_l46, if_neg (nI_ge (by omega) (by omega)), holds_n N (by omega) (by omega), b01, hb, if_pos rfl, ivi_n (show i < 6 by omega) (by decide), ck_t, cl (show i < 2 ^ 31 by omega), g1, knows_yes N (by omega) g2, if10, ck_t, ck_t, ck_t, ivi_n (show hs i < 6 by omega) (by decide), ck_t, cl (show hs i < 2 ^ 31 by omega), nI_1, sh1 _ (by omega), or_nI]
      have := e1 ρ k
      rw [bset, hb] at this
      simpa using this
/-- the class plays the night of those in g -/
theorem play_e {N : Nat} (hN : 200000 ≤ N) {P g : Nat} {WL : Nat → List Nat} {WT hs : Nat → Nat} {wc : Nat → Int32} {wanted : Nat → Nat → Int32} {weight : Nat → Int32} (H : HX P WL WT wc wanted weight) {w : Nat} (hw : w ≤ 2) (hg : g < 2 ^ P) (h1 : ∀ p, p < P → g.testBit p = true → hs p < P) (h2 : ∀ p q, p < P → q < P → g.testBit p = true → g.testBit q = true → hs p = hs q → p = q) {has : Nat → Int32} (hh : ∀ p, p < P → g.testBit p = true → has p = nI (hs p)) (giver got gave aims lumps : Nat → Int32) : ∃ giver' got' gave' aims' lumps', (∀ (ρ : Type) (k : Int32 → Int32 → Int32 → (Nat → Int32) → (Nat → Int32) → (Nat → Int32) → (Nat → Int32) → (Nat → Int32) → Option ρ), f_X6_play N giver got (nI P) gave wc wanted weight aims lumps has (nI g) (nI w) k = k 0 (nI (Nt P WL WT hs w g).2.2.1.length) (nI (Nt P WL WT hs w g).2.1) giver' got' gave' aims' lumps') ∧ (∀ p, p < 6 → got' p = enc9 ((Nt P WL WT hs w g).2.2.2 p)) ∧ (∀ i, i < (Nt P WL WT hs w g).2.2.1.length → lumps' i = nI ((Nt P WL WT hs w g).2.2.1.getD i 0)) := by
  have hP := H.hP
  obtain ⟨giver1, got1, e1, f1⟩ := lay_l17 6 0 N giver got (by omega) (by omega) (fun h hi => absurd hi (by omega))
  obtain ⟨giver2, gave2, e2, f2, f3⟩ := lay_l46 (N := N) (got := got1) hP hg (fun p hp hb => ⟨hh p hp hb, h1 p hp hb⟩) P 0 N giver1 gave (by omega) (by omega) (fun h hi => (f1 h (by omega)).1) (fun p hp => absurd hp (by omega))
  obtain ⟨giver3, got3, aims3, lumps3, e3, f4, f5⟩ := play_l9 hN H hw f3 6 0 N (N0 g) giver2 got1 aims lumps (by omega) (popc_le _ 6) (by omega) (NI_0 hg h1 h2) f2 (fun p hp => (f1 p hp).2) (fun i hi => absurd hi (by simp [N0]))
  refine ⟨giver3, got3, gave2, aims3, lumps3, fun ρ k => ?_, f4, f5⟩
  unfold f_X6_play f_X6_lay f_X6_lay_e44
  have q1 := e1 ρ
  rw [show nI 0 = (0 : Int32) from rfl] at q1
  rw [q1]
  have q2 := e2 ρ
  rw [show nI 0 = (0 : Int32) from rfl] at q2
  refine (q2 _).trans ?_
  have q3 := e3 ρ (fun z_left_e55 z_lumpCount_e55 z_ringed_e55 z_giver_e55 z_got_e55 z_aims_e55 z_lumps_e55 => f_X6_play_e55 gave2 k z_left_e55 z_lumpCount_e55 z_ringed_e55 z_giver_e55 z_got_e55 z_aims_e55 z_lumps_e55)
  refine q3.trans ?_
  unfold f_X6_play_e55
  have hz := (Nt_end (WL := WL) (WT := WT) (w := w) hP hg h1 h2).2
  rw [show (nightF P WL WT hs w 6 (N0 g)).1 = 0 from hz]
  rfl

