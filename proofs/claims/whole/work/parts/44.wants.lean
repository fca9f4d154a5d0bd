/-! 44.wants: the item of somebody's wants -/
abbrev inL (l : List Nat) : Nat := bset (fun h => decide (h ∈ l)) 6
theorem inL_lt (l : List Nat) : inL l < 64 := bset_lt _ 6
theorem inL_bit {l : List Nat} {a : Nat} (ha : a < 6) : (inL l).testBit a = decide (a ∈ l) := by
  rw [bset_bit, decide_eq_true ha, Bool.true_and]
theorem inL_add {l : List Nat} {a : Nat} (ha : a < 6) : inL (l ++ [a]) = inL l ||| 2 ^ a := Nat.eq_of_testBit_eq (fun i => by
  rw [Nat.testBit_or, bset_bit, bset_bit, Nat.testBit_two_pow]
  by_cases e : a = i
  · subst e; simp [ha]
  · have e' : ¬ i = a := fun q => e q.symm
    simp [e, e'])
theorem addW_no {ρ : Type} (N : Nat) {S p a : Nat} (hS : S ≤ 6) (hp : p < S) (wb wc : Nat → Int32) (wanted : Nat → Nat → Int32) (ha : S ≤ a) (ha2 : a ≤ 99) (k : Int32 → (Nat → Int32) → (Nat → Int32) → (Nat → Nat → Int32) → Option ρ) : f_X2_addWant N (nI S) wb wc wanted (nI p) (nI a) k = k 0 wb wc wanted := by
  unfold f_X2_addWant
  rw [knows_no N (Or.inr (nI_le ha (by omega))), if_pos rfl]
theorem addW_had {ρ : Type} (N : Nat) {S p a B : Nat} (hS : S ≤ 6) (hp : p < S) {wb wc : Nat → Int32} {wanted : Nat → Nat → Int32} (ha : a < S) (hb : wb p = nI B) (hB : B < 64) (hh : B.testBit a = true) (k : Int32 → (Nat → Int32) → (Nat → Int32) → (Nat → Nat → Int32) → Option ρ) : f_X2_addWant N (nI S) wb wc wanted (nI p) (nI a) k = k 0 wb wc wanted := by
  unfold f_X2_addWant
  rw [knows_yes N (by omega) ha, if_neg (by decide), ivi_n (show p < 6 by omega) (by decide), ck_t, cl (by omega), hb, holds_n N (by omega) (by omega), b01, hh, if_pos rfl]
theorem addW_yes {ρ : Type} (N : Nat) {S p a B n : Nat} (hS : S ≤ 6) (hp : p < S) {wb wc : Nat → Int32} {wanted : Nat → Nat → Int32} (ha : a < S) (hb : wb p = nI B) (hB : B < 64) (hh : B.testBit a = false) (hc : wc p = nI n) (hn : n < 4) (k : Int32 → (Nat → Int32) → (Nat → Int32) → (Nat → Nat → Int32) → Option ρ) : f_X2_addWant N (nI S) wb wc wanted (nI p) (nI a) k = k 1 (upd wb p (nI (B ||| 2 ^ a))) (upd wc p (nI (n + 1))) (upg wanted p (upd (wanted p) n (nI a))) := by
  unfold f_X2_addWant
  rw [knows_yes N (by omega) ha, if_neg (by decide), ivi_n (show p < 6 by omega) (by decide), ck_t, cl (by omega), hb, holds_n N (by omega) (by omega), b01, hh, if_neg (by decide), ck_t, hc, if_pos (show nI n < (4 : Int32) from nI_lt (b := 4) hn (by decide)), ck_t, ck_t, ivi_n hn (by decide), ck_t, ck_t, ck_t, ck_t, ck_t, cl (by omega), sh1 a (by omega), or_nI, nI_1]
theorem l16_w {ρ : Type} (L S : Int32) (text : Nat → Int32) (r : Int32) (k : Int32 → Int32 → Int32 → Int32 → Int32 → Int32 → (Nat → Int32) → Option ρ) (N n : Nat) (y2 y3 c s t m : Int32) (ss : Nat → Int32) : f_X8_readWants_j67 L text r y2 y3 c s t m ss (f_X8_readWants_l16 L S text r k N (n + 1)) N = k y3 c s t m 1 ss := rfl
theorem wantsL {N : Nat} (hN : 200000 ≤ N) {L : Nat} {c : Nat → Nat} {letters text : Nat → Int32} (T : TX L c letters text) {S a : Nat} (hS : S ≤ 6) (ha : a < S) {wc0 wb0 ss0 : Nat → Int32} {wd0 : Nat → Nat → Int32} : ∀ (d : Nat) (l : List Nat) (j s : Nat) (t v t' n : Int32) (wc wb ss : Nat → Int32) (wd : Nat → Nat → Int32) (n1 n2 : Nat), l.length + d = 4 → d + 1 < n1 → d + 2 < n2 → j ≤ L → s ≤ j → Tk t v t' n → l.Nodup → (∀ h, h ∈ l → h < S) → wc a = nI l.length → wb a = nI (inL l) → (∀ k, k < l.length → wd a k = nI (l.getD k 0) ∧ ss (4 * a + k) = nI (l.getD k 0)) → (∀ q, q ≠ a → wc q = wc0 q ∧ wb q = wb0 q ∧ wd q = wd0 q) → (∀ q, (q < 4 * a ∨ 4 * a + 4 ≤ q) → ss q = ss0 q) →
    (∃ (s' : Nat) (p1 t1 v1 : Int32) (wc1 wb1 : Nat → Int32) (wd1 : Nat → Nat → Int32) (y c2 t2 m2 : Int32) (ss2 : Nat → Int32), s' ≤ L ∧ (∀ (ρ : Type) (k : Int32 → Int32 → Int32 → Int32 → Int32 → (Nat → Int32) → (Nat → Int32) → (Nat → Nat → Int32) → Option ρ), f_X4_readWants_l38 (nI L) (nI S) letters (nI a) k (fun z_place_e80 z_tokenPlace_e80 z_token_e80 z_value_e80 zd_wantCount_e80 zd_wantBits_e80 zd_wanted_e80 => f_X4_readWants_e80 k z_place_e80 z_tokenPlace_e80 z_token_e80 z_value_e80 zd_wantCount_e80 zd_wantBits_e80 zd_wanted_e80) N n1 (nI l.length) (nI j) (nI s) t v wc wb wd = k 0 p1 (nI s') t1 v1 wc1 wb1 wd1) ∧ (∀ (ρ : Type) (k : Int32 → Int32 → Int32 → Int32 → Int32 → Int32 → (Nat → Int32) → Option ρ), f_X8_readWants_l16 (nI L) (nI S) text (nI a) k N n2 (nI (inL l)) (nI l.length) (nI j) (nI s) t' n 0 ss = k y c2 (nI s') t2 m2 1 ss2))
    ∨ (∃ (l' : List Nat) (j' : Nat) (s1 v1 m2 : Int32) (wc1 wb1 ss2 : Nat → Int32) (wd1 : Nat → Nat → Int32), l'.length ≤ 4 ∧ l'.Nodup ∧ (∀ h, h ∈ l' → h < S) ∧ j ≤ j' ∧ j' ≤ L ∧ wc1 a = nI l'.length ∧ wb1 a = nI (inL l') ∧ (∀ k, k < l'.length → wd1 a k = nI (l'.getD k 0) ∧ ss2 (4 * a + k) = nI (l'.getD k 0)) ∧ (∀ q, q ≠ a → wc1 q = wc0 q ∧ wb1 q = wb0 q ∧ wd1 q = wd0 q) ∧ (∀ q, (q < 4 * a ∨ 4 * a + 4 ≤ q) → ss2 q = ss0 q) ∧ (∀ (ρ : Type) (k : Int32 → Int32 → Int32 → Int32 → Int32 → (Nat → Int32) → (Nat → Int32) → (Nat → Nat → Int32) → Option ρ), f_X4_readWants_l38 (nI L) (nI S) letters (nI a) k (fun z_place_e80 z_tokenPlace_e80 z_token_e80 z_value_e80 zd_wantCount_e80 zd_wantBits_e80 zd_wanted_e80 => f_X4_readWants_e80 k z_place_e80 z_tokenPlace_e80 z_token_e80 z_value_e80 zd_wantCount_e80 zd_wantBits_e80 zd_wanted_e80) N n1 (nI l.length) (nI j) (nI s) t v wc wb wd = k 1 (nI j') s1 59 v1 wc1 wb1 wd1) ∧ (∀ (ρ : Type) (k : Int32 → Int32 → Int32 → Int32 → Int32 → Int32 → (Nat → Int32) → Option ρ), f_X8_readWants_l16 (nI L) (nI S) text (nI a) k N n2 (nI (inL l)) (nI l.length) (nI j) (nI s) t' n 0 ss = k (nI l'.length) (nI j') s1 3 m2 0 ss2)) := by
  have hL := T.1
  intro d
  induction d with
  | zero =>
    intro l j s t v t' n wc wb ss wd n1 n2 hl h1 h2 hj hs tk g1 g2 g3 g4 g5 g6 g7
    obtain ⟨n1, rfl⟩ := succ_of h1
    obtain ⟨n2, rfl⟩ := succ_of h2
    obtain ⟨n2, rfl⟩ := succ_of (show 0 < n2 by omega)
    have hl4 : l.length = 4 := by omega
    have h4 : (4 : Int32) ≤ nI l.length := by rw [hl4]; decide
    have h4' : nI l.length = (4 : Int32) := by rw [hl4]; rfl
    rcases Tk_end tk with ⟨rfl, rfl⟩ | ⟨q1, q2⟩
    · refine Or.inr ⟨l, j, nI s, v, n, wc, wb, ss, wd, by omega, g1, g2, Nat.le_refl _, hj, g3, g4, g5, g6, g7, fun ρ k => ?_, fun ρ k => ?_⟩
      · rw [f_X4_readWants_l38, if_pos h4]
        unfold f_X4_readWants_e80
        rw [if_pos rfl]
      · rw [f_X8_readWants_l16, if_pos rfl, if_pos rfl]
    · refine Or.inl ⟨s, nI j, t, v, wc, wb, wd, nI l.length, nI j, t', n, ss, by omega, fun ρ k => ?_, fun ρ k => ?_⟩
      · rw [f_X4_readWants_l38, if_pos h4]
        unfold f_X4_readWants_e80
        rw [if_neg q1]
      · rw [f_X8_readWants_l16, if_pos rfl, if_neg q2, if_pos h4', l16_w]
  | succ d ih =>
    intro l j s t v t' n wc wb ss wd n1 n2 hl h1 h2 hj hs tk g1 g2 g3 g4 g5 g6 g7
    obtain ⟨n1, rfl⟩ := succ_of h1
    obtain ⟨n2, rfl⟩ := succ_of h2
    obtain ⟨n2, rfl⟩ := succ_of (show 0 < n2 by omega)
    have h4 : ¬ (4 : Int32) ≤ nI l.length := nI_ge (b := 4) (by omega) (by decide)
    have h4' : ¬ nI l.length = (4 : Int32) := fun q => by have := inj_n (b := 4) (by omega) (by decide) q; omega
    have hB := inL_lt l
    rcases Tk_num tk with ⟨b, hb, rfl, rfl, rfl, rfl⟩ | ⟨r1, r2⟩
    · by_cases hbS : b < S
      · have hbit := inL_bit (l := l) (show b < 6 by omega)
        by_cases hm : b ∈ l
        · rw [decide_eq_true hm] at hbit
          refine Or.inl ⟨s, nI j, 257, nI b, wc, wb, wd, nI l.length, nI j, 2, nI b, ss, by omega, fun ρ k => ?_, fun ρ k => ?_⟩
          · rw [f_X4_readWants_l38, if_neg h4, if_pos rfl, addW_had N hS ha hbS g4 hB hbit, if_pos rfl]
          · rw [f_X8_readWants_l16, if_pos rfl, if_neg (by decide), if_neg h4', if_pos rfl, if_neg (nI_ge hbS (by omega)), has_n N (by omega) (by omega), b01, hbit, if_pos rfl, l16_w]
        · rw [decide_eq_false hm] at hbit
          obtain ⟨s1, j1, t1, v1, t1', m1, o1, o2, o3, o4, tk1, x1, y1⟩ := tok hN T hj (nI b)
          have hlen : (l ++ [b]).length = l.length + 1 := by rw [List.length_append]; rfl
          have key := ih (l ++ [b]) j1 s1 t1 v1 t1' m1 (upd wc a (nI (l.length + 1))) (upd wb a (nI (inL l ||| 2 ^ b))) (upd ss (4 * a + l.length) (nI b)) (upg wd a (upd (wd a) l.length (nI b))) n1 (n2 + 1) (by omega) (by omega) (by omega) o3 o2 tk1
            (List.nodup_append.mpr ⟨g1, by simp, by
              intro x hx y hy
              rw [List.mem_singleton] at hy
              subst hy
              exact fun e => hm (e ▸ hx)⟩)
            (fun h hh => by
              rw [List.mem_append, List.mem_singleton] at hh
              rcases hh with hh | rfl
              · exact g2 h hh
              · exact hbS)
            (by rw [upd_s, hlen]) (by rw [upd_s, inL_add (by omega)])
            (fun k hk => by
              rw [hlen] at hk
              rw [upg_s]
              by_cases e : k = l.length
              · subst e; rw [upd_s, upd_s, getD_last]; exact ⟨rfl, rfl⟩
              · rw [upd_n e, upd_n (by omega), getD_app (by omega)]; exact g5 k (by omega))
            (fun q hq => by rw [upd_n hq, upd_n hq, upg_n hq]; exact g6 q hq)
            (fun q hq => by rw [upd_n (by omega)]; exact g7 q hq)
          have X : ∀ (ρ : Type) (k : Int32 → Int32 → Int32 → Int32 → Int32 → (Nat → Int32) → (Nat → Int32) → (Nat → Nat → Int32) → Option ρ), f_X4_readWants_l38 (nI L) (nI S) letters (nI a) k (fun z_place_e80 z_tokenPlace_e80 z_token_e80 z_value_e80 zd_wantCount_e80 zd_wantBits_e80 zd_wanted_e80 => f_X4_readWants_e80 k z_place_e80 z_tokenPlace_e80 z_token_e80 z_value_e80 zd_wantCount_e80 zd_wantBits_e80 zd_wanted_e80) N (n1 + 1) (nI l.length) (nI j) (nI s) 257 (nI b) wc wb wd = f_X4_readWants_l38 (nI L) (nI S) letters (nI a) k (fun z_place_e80 z_tokenPlace_e80 z_token_e80 z_value_e80 zd_wantCount_e80 zd_wantBits_e80 zd_wanted_e80 => f_X4_readWants_e80 k z_place_e80 z_tokenPlace_e80 z_token_e80 z_value_e80 zd_wantCount_e80 zd_wantBits_e80 zd_wanted_e80) N n1 (nI (l ++ [b]).length) (nI j1) (nI s1) t1 v1 (upd wc a (nI (l.length + 1))) (upd wb a (nI (inL l ||| 2 ^ b))) (upg wd a (upd (wd a) l.length (nI b))) := fun ρ k => by
            rw [f_X4_readWants_l38, if_neg h4, if_pos rfl, addW_yes N hS ha hbS g4 hB hbit g3 (by omega), if_neg (by decide), x1, hlen, nI_1]
          have Y : ∀ (ρ : Type) (k : Int32 → Int32 → Int32 → Int32 → Int32 → Int32 → (Nat → Int32) → Option ρ), f_X8_readWants_l16 (nI L) (nI S) text (nI a) k N (n2 + 1 + 1) (nI (inL l)) (nI l.length) (nI j) (nI s) 2 (nI b) 0 ss = f_X8_readWants_l16 (nI L) (nI S) text (nI a) k N (n2 + 1) (nI (inL (l ++ [b]))) (nI (l ++ [b]).length) (nI j1) (nI s1) t1' m1 0 (upd ss (4 * a + l.length) (nI b)) := fun ρ k => by
            rw [f_X8_readWants_l16, if_pos rfl, if_neg (by decide), if_neg h4', if_pos rfl, if_neg (nI_ge hbS (by omega)), has_n N (by omega) (by omega), b01, hbit, if_neg (by decide)]
            unfold f_X8_readWants_j72
            rw [ck_z0, if_pos rfl, show (4 : Int32) * nI a = nI (4 * a) from pk_mul 4 a, nI_add, ivi_n (show 4 * a + l.length < 24 by omega) (by decide), ck_t, y1, cl (by omega), sh1 b (by omega), or_nI, nI_1, hlen, inL_add (by omega)]
          rcases key with ⟨s', p1, t2, v2, wc1, wb1, wd1, y, c2, t3, m2, ss2, k1, k2, k3⟩ | ⟨l', j', s2, v2, m2, wc1, wb1, ss2, wd1, k1, k2, k3, k4, k5, k6, k7, k8, k9, k10, k11, k12⟩
          · exact Or.inl ⟨s', p1, t2, v2, wc1, wb1, wd1, y, c2, t3, m2, ss2, k1, fun ρ k => (X ρ k).trans (k2 ρ k), fun ρ k => (Y ρ k).trans (k3 ρ k)⟩
          · exact Or.inr ⟨l', j', s2, v2, m2, wc1, wb1, ss2, wd1, k1, k2, k3, by omega, k5, k6, k7, k8, k9, k10, fun ρ k => (X ρ k).trans (k11 ρ k), fun ρ k => (Y ρ k).trans (k12 ρ k)⟩
      · refine Or.inl ⟨s, nI j, 257, nI b, wc, wb, wd, nI l.length, nI j, 2, nI b, ss, by omega, fun ρ k => ?_, fun ρ k => ?_⟩
        · rw [f_X4_readWants_l38, if_neg h4, if_pos rfl, addW_no N hS ha wb wc wd (by omega) hb, if_pos rfl]
        · rw [f_X8_readWants_l16, if_pos rfl, if_neg (by decide), if_neg h4', if_pos rfl, if_pos (nI_le (by omega) (by omega)), l16_w]
    · rcases Tk_end tk with ⟨rfl, rfl⟩ | ⟨q1, q2⟩
      · refine Or.inr ⟨l, j, nI s, v, n, wc, wb, ss, wd, by omega, g1, g2, Nat.le_refl _, hj, g3, g4, g5, g6, g7, fun ρ k => ?_, fun ρ k => ?_⟩
        · rw [f_X4_readWants_l38, if_neg h4, if_neg r1]
          unfold f_X4_readWants_e80
          rw [if_pos rfl]
        · rw [f_X8_readWants_l16, if_pos rfl, if_pos rfl]
      · refine Or.inl ⟨s, nI j, t, v, wc, wb, wd, nI l.length, nI j, t', n, ss, by omega, fun ρ k => ?_, fun ρ k => ?_⟩
        · rw [f_X4_readWants_l38, if_neg h4, if_neg r1]
          unfold f_X4_readWants_e80
          rw [if_neg q1]
        · rw [f_X8_readWants_l16, if_pos rfl, if_neg q2, if_neg h4', if_neg r2, l16_w]
theorem wantsI {N : Nat} (hN : 200000 ≤ N) {L : Nat} {c : Nat → Nat} {letters text : Nat → Int32} (T : TX L c letters text) {j s0 S : Nat} (hj : j ≤ L) (hs0 : s0 ≤ j) (hS : S ≤ 6) (v sl : Int32) (wc wb sw sn sm ss : Nat → Int32) (wd : Nat → Nat → Int32) :
    (∃ (s' : Nat) (p1 t1 v1 c2 t2 m2 : Int32) (wc1 wb1 sm2 ss2 : Nat → Int32) (wd1 : Nat → Nat → Int32), s' ≤ L ∧ (∀ (ρ : Type) (k : Int32 → Int32 → Int32 → Int32 → Int32 → (Nat → Int32) → (Nat → Int32) → (Nat → Nat → Int32) → Option ρ), f_X4_readWants N (nI L) (nI j) v (nI S) letters wc wb wd k = k 0 p1 (nI s') t1 v1 wc1 wb1 wd1) ∧ (∀ (ρ : Type) (k : Int32 → Int32 → Int32 → Int32 → Int32 → Int32 → Int32 → (Nat → Int32) → (Nat → Int32) → (Nat → Int32) → (Nat → Int32) → Option ρ), f_X8_readItem N (nI L) (nI j) (nI s0) 1 119 0 (nI S) sl text sw sn sm ss k = k c2 (nI s') t2 m2 1 (nI S) sl sw sn sm2 ss2))
    ∨ (∃ (a : Nat) (l' : List Nat) (j' : Nat) (s1 v1 : Int32) (wc1 wb1 ss2 : Nat → Int32) (wd1 : Nat → Nat → Int32), a < S ∧ l'.length ≤ 4 ∧ l'.Nodup ∧ (∀ h, h ∈ l' → h < S) ∧ j ≤ j' ∧ j' ≤ L ∧ wc1 a = nI l'.length ∧ wb1 a = nI (inL l') ∧ (∀ k, k < l'.length → wd1 a k = nI (l'.getD k 0) ∧ ss2 (4 * a + k) = nI (l'.getD k 0)) ∧ (∀ q, q ≠ a → wc1 q = wc q ∧ wb1 q = wb q ∧ wd1 q = wd q) ∧ (∀ q, (q < 4 * a ∨ 4 * a + 4 ≤ q) → ss2 q = ss q) ∧ (∀ (ρ : Type) (k : Int32 → Int32 → Int32 → Int32 → Int32 → (Nat → Int32) → (Nat → Int32) → (Nat → Nat → Int32) → Option ρ), f_X4_readWants N (nI L) (nI j) v (nI S) letters wc wb wd k = k 1 (nI j') s1 59 v1 wc1 wb1 wd1) ∧ (∀ (ρ : Type) (k : Int32 → Int32 → Int32 → Int32 → Int32 → Int32 → Int32 → (Nat → Int32) → (Nat → Int32) → (Nat → Int32) → (Nat → Int32) → Option ρ), f_X8_readItem N (nI L) (nI j) (nI s0) 1 119 0 (nI S) sl text sw sn sm ss k = f_X8_next N (nI L) (nI j') text (fun c1 s1 t1 n1 => k c1 s1 t1 n1 0 (nI S) sl sw sn (upd sm a (nI l'.length)) ss2))) := by
  have hL := T.1
  obtain ⟨s1, j1, t1, v1, t1', n1, a1, a2, a3, nx1, r1⟩ := numX hN T hj v 0 (nI S - 1)
  have m0 : ∀ (ρ : Type) (k : Int32 → Int32 → Int32 → Int32 → Int32 → Int32 → Int32 → (Nat → Int32) → (Nat → Int32) → (Nat → Int32) → (Nat → Int32) → Option ρ), f_X8_readItem N (nI L) (nI j) (nI s0) 1 119 0 (nI S) sl text sw sn sm ss k = f_X8_readWants N (nI L) (nI j1) (nI s1) t1' n1 0 (nI S) text ss sm (fun z_cursor_103 z_start_103 z_token_103 z_number_103 z_isWrong_103 z_saidWants_103 z_saidMany_103 => f_X8_readItem_j119 (nI L) text k N z_cursor_103 z_start_103 z_token_103 z_number_103 z_isWrong_103 (nI S) sl sw sn z_saidMany_103 z_saidWants_103) := fun ρ k => by
    unfold f_X8_readItem f_X8_readItem_j60
    rw [if_neg (by decide), if_neg (by decide), if_pos rfl, if_pos rfl, if_neg (by decide), nx1, if_neg (by decide), if_pos rfl]
  rcases r1 with ⟨a, b1, b2, b3, x1, y1⟩ | ⟨x1, y1⟩
  · have ha : a < S := by
      refine Nat.lt_of_not_le (fun q => b3 ?_)
      rcases Nat.eq_zero_or_pos S with h | h
      · rw [h]
        exact Int32.lt_of_lt_of_le (show nI 0 - 1 < (0 : Int32) by decide) (nI_pos' (by omega))
      · rw [nI_sub1 h]; exact nI_lt (by omega) (by omega)
    have hiv := ivi_n (i := a) (n := 6) (by omega) (by decide)
    have hcl := cl (n := a) (by omega)
    obtain ⟨s2, j2, t2, v2, t2', n2, c1, c2, c3, c4, tk, x2, y2⟩ := tok hN T a3 (nI a)
    have key := wantsL hN T hS ha (wc0 := wc) (wb0 := wb) (ss0 := ss) (wd0 := wd) 4 [] j2 s2 t2 v2 t2' n2 (upd wc a 0) (upd wb a 0) ss wd N N rfl (by omega) (by omega) c3 c2 tk List.nodup_nil (fun h hh => absurd hh List.not_mem_nil) (upd_s _ _ _) (upd_s _ _ _) (fun k hk => absurd hk (Nat.not_lt_zero k)) (fun q hq => ⟨upd_n hq, upd_n hq, rfl⟩) (fun q _ => rfl)
    have X : ∀ (ρ : Type) (k : Int32 → Int32 → Int32 → Int32 → Int32 → (Nat → Int32) → (Nat → Int32) → (Nat → Nat → Int32) → Option ρ), f_X4_readWants N (nI L) (nI j) v (nI S) letters wc wb wd k = f_X4_readWants_l38 (nI L) (nI S) letters (nI a) k (fun z_place_e80 z_tokenPlace_e80 z_token_e80 z_value_e80 zd_wantCount_e80 zd_wantBits_e80 zd_wanted_e80 => f_X4_readWants_e80 k z_place_e80 z_tokenPlace_e80 z_token_e80 z_value_e80 zd_wantCount_e80 zd_wantBits_e80 zd_wanted_e80) N N 0 (nI j2) (nI s2) t2 v2 (upd wc a 0) (upd wb a 0) wd := fun ρ k => by
      unfold f_X4_readWants f_X2_dropWants
      rw [x1, if_neg (by decide), hiv, ck_t, ck_t, hcl]
      exact x2 ρ _
    have Y : ∀ (ρ : Type) (k : Int32 → Int32 → Int32 → Int32 → Int32 → Int32 → Int32 → (Nat → Int32) → (Nat → Int32) → (Nat → Int32) → (Nat → Int32) → Option ρ), f_X8_readItem N (nI L) (nI j) (nI s0) 1 119 0 (nI S) sl text sw sn sm ss k = f_X8_readWants_l16 (nI L) (nI S) text (nI a) (fun y3 c3 s3 t3 n3 w3 ss3 => f_X8_readItem_j119 (nI L) text k N c3 s3 t3 n3 w3 (nI S) sl sw sn (upd sm a y3) ss3) N N 0 0 (nI j2) (nI s2) t2' n2 0 ss := fun ρ k => by
      rw [m0]
      unfold f_X8_readWants f_X8_readWants_e115
      rw [y1, y2, hiv, hcl]
      rfl
    rcases key with ⟨s', p1, t3, v3, wc1, wb1, wd1, y, c5, t5, m2, ss2, k1, k2, k3⟩ | ⟨l', j', s3, v3, m2, wc1, wb1, ss2, wd1, k1, k2, k3, k4, k5, k6, k7, k8, k9, k10, k11, k12⟩
    · refine Or.inl ⟨s', p1, t3, v3, c5, t5, m2, wc1, wb1, upd sm a y, ss2, wd1, k1, fun ρ k => (X ρ k).trans (k2 ρ k), fun ρ k => (Y ρ k).trans ?_⟩
      refine Eq.trans (k3 ρ _) ?_
      exact j119_w _ _ _ _ _ _ _ _ _ _ _ _ _ _
    · refine Or.inr ⟨a, l', j', s3, v3, wc1, wb1, ss2, wd1, ha, k1, k2, k3, by omega, k5, k6, k7, k8, k9, k10, fun ρ k => (X ρ k).trans (k11 ρ k), fun ρ k => (Y ρ k).trans ?_⟩
      refine Eq.trans (k12 ρ _) ?_
      exact j119_g _ _ _ _ _ _ _ _ _ _ _ _ _
  · refine Or.inl ⟨s1, nI j1, t1, v1, nI j1, t1', n1, wc, wb, upd sm 0 0, ss, wd, by omega, fun ρ k => ?_, fun ρ k => ?_⟩
    · unfold f_X4_readWants
      rw [x1, if_pos rfl]
    · rw [m0]
      obtain ⟨m, hm⟩ := succ_of (show 0 < N by omega)
      unfold f_X8_readWants
      rw [y1, hm]
      rfl

