/-! 45.read: the whole text in the two readers -/
def Rd (S : Nat) (WL : Nat → List Nat) (WT NT : Nat → Nat) (weight nights wc wb : Nat → Int32) (wd : Nat → Nat → Int32) (sw sn sm ss : Nat → Int32) : Prop :=
  S ≤ 6 ∧ (∀ p, p < S → 1 ≤ WT p ∧ WT p ≤ 60 ∧ weight p = nI (WT p) ∧ sw p = nI (WT p) ∧ NT p ≤ 9 ∧ nights p = nI (NT p) ∧ sn p = nI (NT p)) ∧
  ∀ p, p < S → (WL p).length ≤ 4 ∧ (WL p).Nodup ∧ (∀ h, h ∈ WL p → h < S) ∧ wc p = nI (WL p).length ∧ sm p = nI (WL p).length ∧ wb p = nI (inL (WL p)) ∧ ∀ k, k < (WL p).length → wd p k = nI ((WL p).getD k 0) ∧ ss (4 * p + k) = nI ((WL p).getD k 0)
theorem Rd_p {S : Nat} {WL : Nat → List Nat} {WT NT : Nat → Nat} {weight nights wc wb : Nat → Int32} {wd : Nat → Nat → Int32} {sw sn sm ss : Nat → Int32} (h : Rd S WL WT NT weight nights wc wb wd sw sn sm ss) (hS : S < 6) {m g : Nat} (m1 : 1 ≤ m) (m2 : m ≤ 60) (g2 : g ≤ 9) : Rd (S + 1) (fun p => if p = S then [] else WL p) (fun p => if p = S then m else WT p) (fun p => if p = S then g else NT p) (upd weight S (nI m)) (upd nights S (nI g)) (upd wc S 0) (upd wb S 0) wd (upd sw S (nI m)) (upd sn S (nI g)) (upd sm S 0) ss := by
  obtain ⟨h1, h2, h3⟩ := h
  refine ⟨by omega, fun p hp => ?_, fun p hp => ?_⟩ <;> dsimp only
  · by_cases e : p = S
    · subst e
      rw [if_pos rfl, if_pos rfl, upd_s, upd_s, upd_s, upd_s]
      exact ⟨m1, m2, rfl, rfl, g2, rfl, rfl⟩
    · rw [if_neg e, if_neg e, upd_n e, upd_n e, upd_n e, upd_n e]
      exact h2 p (by omega)
  · by_cases e : p = S
    · subst e
      rw [if_pos rfl, upd_s, upd_s, upd_s]
      exact ⟨by decide, List.nodup_nil, fun h hh => absurd hh List.not_mem_nil, rfl, rfl, rfl, fun k hk => absurd hk (Nat.not_lt_zero k)⟩
    · rw [if_neg e, upd_n e, upd_n e, upd_n e]
      obtain ⟨a1, a2, a3, a4⟩ := h3 p (by omega)
      exact ⟨a1, a2, fun h hh => by have := a3 h hh; omega, a4⟩
theorem Rd_w {S : Nat} {WL : Nat → List Nat} {WT NT : Nat → Nat} {weight nights wc wb : Nat → Int32} {wd : Nat → Nat → Int32} {sw sn sm ss : Nat → Int32} (h : Rd S WL WT NT weight nights wc wb wd sw sn sm ss) {a : Nat} {l : List Nat} {wc1 wb1 ss1 : Nat → Int32} {wd1 : Nat → Nat → Int32} (ha : a < S) (k1 : l.length ≤ 4) (k2 : l.Nodup) (k3 : ∀ h, h ∈ l → h < S) (k6 : wc1 a = nI l.length) (k7 : wb1 a = nI (inL l)) (k8 : ∀ k, k < l.length → wd1 a k = nI (l.getD k 0) ∧ ss1 (4 * a + k) = nI (l.getD k 0)) (k9 : ∀ q, q ≠ a → wc1 q = wc q ∧ wb1 q = wb q ∧ wd1 q = wd q) (k10 : ∀ q, (q < 4 * a ∨ 4 * a + 4 ≤ q) → ss1 q = ss q) : Rd S (fun p => if p = a then l else WL p) WT NT weight nights wc1 wb1 wd1 sw sn (upd sm a (nI l.length)) ss1 := by
  obtain ⟨h1, h2, h3⟩ := h
  refine ⟨h1, h2, fun p hp => ?_⟩
  dsimp only
  by_cases e : p = a
  · subst e
    rw [if_pos rfl, upd_s]
    exact ⟨k1, k2, k3, k6, rfl, k7, k8⟩
  · obtain ⟨a1, a2, a3, a4, a5, a6, a7⟩ := h3 p hp
    obtain ⟨c1, c2, c3⟩ := k9 p e
    rw [if_neg e, upd_n e, c1, c2, c3]
    exact ⟨a1, a2, a3, a4, a5, a6, fun k hk => ⟨(a7 k hk).1, by rw [k10 (4 * p + k) (by omega)]; exact (a7 k hk).2⟩⟩
theorem l29_w {ρ : Type} (L : Int32) (text : Nat → Int32) (k60 : Int32 → Int32 → Int32 → Int32 → Int32 → Int32 → Int32 → Int32 → (Nat → Int32) → (Nat → Int32) → (Nat → Int32) → (Nat → Int32) → Option ρ) (N n : Nat) (c s t m it sp sl : Int32) (sw sn sm ss : Nat → Int32) : f_X8_house_l29 L text k60 N (n + 1) c s t m 1 it sp sl sw sn sm ss = k60 c s t m 1 it sp sl sw sn sm ss := by
  rw [f_X8_house_l29]
  by_cases e : t = 0
  · rw [if_pos e]
  · rw [if_neg e, if_neg (by decide)]
theorem readItem_b {ρ : Type} (N : Nat) (L c s m sp sl : Int32) {t : Int32} (ht : ¬ t = 1) (text sw sn sm ss : Nat → Int32) (k : Int32 → Int32 → Int32 → Int32 → Int32 → Int32 → Int32 → (Nat → Int32) → (Nat → Int32) → (Nat → Int32) → (Nat → Int32) → Option ρ) : f_X8_readItem N L c s t m 0 sp sl text sw sn sm ss k = k c s t m 1 sp sl sw sn sm ss := by
  unfold f_X8_readItem f_X8_readItem_j60
  simp only [if_neg ht, ite_self]
theorem readL {N : Nat} (hN : 200000 ≤ N) {L : Nat} {c : Nat → Nat} {letters text : Nat → Int32} (T : TX L c letters text) : ∀ (d i j s S : Nat) (t v t' n lt law sl : Int32) (WL : Nat → List Nat) (WT NT : Nat → Nat) (weight nights wc wb : Nat → Int32) (wd : Nat → Nat → Int32) (sw sn sm ss : Nat → Int32) (n1 n2 : Nat), i + d = 151 → d < n1 → d + 1 < n2 → j ≤ L → s ≤ j → (¬ t = 256 → i < j) → Tk t v t' n → Rd S WL WT NT weight nights wc wb wd sw sn sm ss → Rw lt law sl →
    (∃ (s' : Nat) (p1 t1 v1 lt1 sz1 law1 : Int32) (we1 ni1 wc1 wb1 : Nat → Int32) (wd1 : Nat → Nat → Int32) (c2 t2 m2 it2 sp2 sl2 : Int32) (sw2 sn2 sm2 ss2 : Nat → Int32), s' ≤ 150 ∧
      (∀ (ρ : Type) (k100 : Int32 → Int32 → Int32 → Int32 → Int32 → Int32 → Int32 → (Nat → Int32) → (Nat → Int32) → (Nat → Int32) → (Nat → Int32) → (Nat → Nat → Int32) → Option ρ) (k121 : Int32 → Int32 → Int32 → Int32 → Int32 → Int32 → Int32 → Int32 → (Nat → Int32) → (Nat → Int32) → (Nat → Int32) → (Nat → Int32) → (Nat → Nat → Int32) → Option ρ), f_X4_read_l25 (nI L) letters k100 k121 N n1 (nI i) (nI i) (nI j) (nI s) t v lt (nI S) law weight nights wc wb wd = k100 p1 (nI s') t1 v1 lt1 sz1 law1 we1 ni1 wc1 wb1 wd1) ∧
      (∀ (ρ : Type) (k60 : Int32 → Int32 → Int32 → Int32 → Int32 → Int32 → Int32 → Int32 → (Nat → Int32) → (Nat → Int32) → (Nat → Int32) → (Nat → Int32) → Option ρ), f_X8_house_l29 (nI L) text k60 N n2 (nI j) (nI s) t' n 0 (nI i) (nI S) sl sw sn sm ss = k60 c2 (nI s') t2 m2 1 it2 sp2 sl2 sw2 sn2 sm2 ss2))
    ∨ (∃ (i' S' : Nat) (WL' : Nat → List Nat) (WT' NT' : Nat → Nat) (p1 q1 t1 v1 lt1 law1 : Int32) (we1 ni1 wc1 wb1 : Nat → Int32) (wd1 : Nat → Nat → Int32) (c2 s2 t2 m2 sl2 : Int32) (sw2 sn2 sm2 ss2 : Nat → Int32), i' ≤ 151 ∧ Rd S' WL' WT' NT' we1 ni1 wc1 wb1 wd1 sw2 sn2 sm2 ss2 ∧ Rw lt1 law1 sl2 ∧
      (∀ (ρ : Type) (k100 : Int32 → Int32 → Int32 → Int32 → Int32 → Int32 → Int32 → (Nat → Int32) → (Nat → Int32) → (Nat → Int32) → (Nat → Int32) → (Nat → Nat → Int32) → Option ρ) (k121 : Int32 → Int32 → Int32 → Int32 → Int32 → Int32 → Int32 → Int32 → (Nat → Int32) → (Nat → Int32) → (Nat → Int32) → (Nat → Int32) → (Nat → Nat → Int32) → Option ρ), f_X4_read_l25 (nI L) letters k100 k121 N n1 (nI i) (nI i) (nI j) (nI s) t v lt (nI S) law weight nights wc wb wd = k121 (nI i') p1 q1 t1 v1 lt1 (nI S') law1 we1 ni1 wc1 wb1 wd1) ∧
      (∀ (ρ : Type) (k60 : Int32 → Int32 → Int32 → Int32 → Int32 → Int32 → Int32 → Int32 → (Nat → Int32) → (Nat → Int32) → (Nat → Int32) → (Nat → Int32) → Option ρ), f_X8_house_l29 (nI L) text k60 N n2 (nI j) (nI s) t' n 0 (nI i) (nI S) sl sw sn sm ss = k60 c2 s2 t2 m2 0 (nI i') (nI S') sl2 sw2 sn2 sm2 ss2)) := by
  have hL := T.1
  intro d
  induction d with
  | zero =>
    intro i j s S t v t' n lt law sl WL WT NT weight nights wc wb wd sw sn sm ss n1 n2 hi h1 h2 hj hs ht tk hR hW
    obtain ⟨n1, rfl⟩ := succ_of h1
    obtain ⟨n2, rfl⟩ := succ_of h2
    have e256 : t = 256 := Classical.byContradiction (fun q => by have := ht q; omega)
    have e0 : t' = 0 := by
      rcases tk with ⟨_, q⟩ | ⟨a, _, q, _⟩ | ⟨q, _⟩ | ⟨q, _⟩ | ⟨q, _⟩ | ⟨q, _⟩ | ⟨q, _⟩
      · exact q
      · rw [e256] at q; exact absurd q (by decide)
      · rw [e256] at q; exact absurd q (by decide)
      · rw [e256] at q; exact absurd q (by decide)
      · rw [e256] at q; exact absurd q (by decide)
      · rw [e256] at q; exact absurd q (by decide)
      · exact absurd e256 q
    refine Or.inr ⟨i, S, WL, WT, NT, nI j, nI s, t, v, lt, law, weight, nights, wc, wb, wd, nI j, nI s, t', n, sl, sw, sn, sm, ss, by omega, hR, hW, fun ρ k100 k121 => ?_, fun ρ k60 => ?_⟩
    · rw [f_X4_read_l25, if_pos (show (150 : Int32) ≤ nI i from nI_le (a := 150) (by omega) (by omega))]
    · rw [f_X8_house_l29, if_pos e0]
  | succ d ih =>
    intro i j s S t v t' n lt law sl WL WT NT weight nights wc wb wd sw sn sm ss n1 n2 hi h1 h2 hj hs ht tk hR hW
    obtain ⟨n1, rfl⟩ := succ_of h1
    obtain ⟨n2, rfl⟩ := succ_of h2
    obtain ⟨n2, rfl⟩ := succ_of (show 0 < n2 by omega)
    have hS := hR.1
    by_cases e256 : t = 256
    · have e0 : t' = 0 := by
        rcases tk with ⟨_, q⟩ | ⟨a, _, q, _⟩ | ⟨q, _⟩ | ⟨q, _⟩ | ⟨q, _⟩ | ⟨q, _⟩ | ⟨q, _⟩
        · exact q
        · rw [e256] at q; exact absurd q (by decide)
        · rw [e256] at q; exact absurd q (by decide)
        · rw [e256] at q; exact absurd q (by decide)
        · rw [e256] at q; exact absurd q (by decide)
        · rw [e256] at q; exact absurd q (by decide)
        · exact absurd e256 q
      refine Or.inr ⟨i, S, WL, WT, NT, nI j, nI s, t, v, lt, law, weight, nights, wc, wb, wd, nI j, nI s, t', n, sl, sw, sn, sm, ss, by omega, hR, hW, fun ρ k100 k121 => ?_, fun ρ k60 => ?_⟩
      · rw [f_X4_read_l25]
        by_cases e : (150 : Int32) ≤ nI i
        · rw [if_pos e]
        · rw [if_neg e, if_pos e256]
      · rw [f_X8_house_l29, if_pos e0]
    · have hij := ht e256
      have h150 : ¬ (150 : Int32) ≤ nI i := nI_ge (b := 150) (by omega) (by decide)
      rcases tk with ⟨q, _⟩ | ⟨a, _, rfl, _, rfl, _⟩ | ⟨rfl, rfl, rfl⟩ | ⟨rfl, rfl, rfl⟩ | ⟨rfl, rfl, rfl⟩ | ⟨rfl, rfl⟩ | ⟨_, _, q3, q4, q5, _, rfl⟩
      · exact absurd q e256
      · refine Or.inl ⟨s, nI j, 257, v, lt, nI S, law, weight, nights, wc, wb, wd, nI j, 2, n, nI (i + 1), nI S, sl, sw, sn, sm, ss, by omega, fun ρ k100 k121 => ?_, fun ρ k60 => ?_⟩
        · rw [f_X4_read_l25, if_neg h150, if_neg e256, if_neg (by decide), if_neg (by decide), if_neg (by decide)]
          unfold f_X4_read_j94 f_X4_read_j95
          rw [if_pos rfl]
        · rw [f_X8_house_l29, if_neg (by decide), if_pos rfl, readItem_b _ _ _ _ _ _ _ (by decide), l29_w, nI_1]
      · rcases personI hN T hj hs hS v sl weight nights wc wb sw sn sm ss with ⟨s', p1, t1, v1, c2, t2, m2, sp2, sw2, sn2, sm2, k1, k2, k3⟩ | ⟨m, g, j', s1, v1, m1, m2, g1, g2, h6, k4, k5, k2, k3⟩
        · refine Or.inl ⟨s', p1, t1, v1, lt, nI S, law, weight, nights, wc, wb, wd, c2, t2, m2, nI (i + 1), sp2, sl, sw2, sn2, sm2, ss, by omega, fun ρ k100 k121 => ?_, fun ρ k60 => ?_⟩
          · rw [f_X4_read_l25, if_neg h150, if_neg e256, if_pos rfl, k2]
            unfold f_X4_read_j95
            rw [if_pos rfl]
          · rw [f_X8_house_l29, if_neg (by decide), if_pos rfl, k3, l29_w, nI_1]
        · obtain ⟨s3, j3, t3, v3, t3', n3, o1, o2, o3, o4, tk3, x3, y3⟩ := tok hN T k5 v1
          have key := ih (i + 1) j3 s3 (S + 1) t3 v3 t3' n3 lt law sl _ _ _ _ _ _ _ wd _ _ _ ss n1 (n2 + 1) (by omega) (by omega) (by omega) o3 o2 (fun q => by have := o4 q; omega) tk3 (Rd_p hR h6 m1 m2 g2) hW
          have X : ∀ (ρ : Type) (k100 : Int32 → Int32 → Int32 → Int32 → Int32 → Int32 → Int32 → (Nat → Int32) → (Nat → Int32) → (Nat → Int32) → (Nat → Int32) → (Nat → Nat → Int32) → Option ρ) (k121 : Int32 → Int32 → Int32 → Int32 → Int32 → Int32 → Int32 → Int32 → (Nat → Int32) → (Nat → Int32) → (Nat → Int32) → (Nat → Int32) → (Nat → Nat → Int32) → Option ρ), f_X4_read_l25 (nI L) letters k100 k121 N (n1 + 1) (nI i) (nI i) (nI j) (nI s) 112 v lt (nI S) law weight nights wc wb wd = f_X4_read_l25 (nI L) letters k100 k121 N n1 (nI (i + 1)) (nI (i + 1)) (nI j3) (nI s3) t3 v3 lt (nI (S + 1)) law (upd weight S (nI m)) (upd nights S (nI g)) (upd wc S 0) (upd wb S 0) wd := fun ρ k100 k121 => by
            rw [f_X4_read_l25, if_neg h150, if_neg e256, if_pos rfl, k2]
            unfold f_X4_read_j95
            rw [if_neg (by decide), x3, nI_1]
          have Y : ∀ (ρ : Type) (k60 : Int32 → Int32 → Int32 → Int32 → Int32 → Int32 → Int32 → Int32 → (Nat → Int32) → (Nat → Int32) → (Nat → Int32) → (Nat → Int32) → Option ρ), f_X8_house_l29 (nI L) text k60 N (n2 + 1 + 1) (nI j) (nI s) 1 112 0 (nI i) (nI S) sl sw sn sm ss = f_X8_house_l29 (nI L) text k60 N (n2 + 1) (nI j3) (nI s3) t3' n3 0 (nI (i + 1)) (nI (S + 1)) sl (upd sw S (nI m)) (upd sn S (nI g)) (upd sm S 0) ss := fun ρ k60 => by
            rw [f_X8_house_l29, if_neg (by decide), if_pos rfl, k3, y3, nI_1]
          rcases key with ⟨z1, z2, z3, z4, z5, z6, z7, z8, z9, z10, z11, z12, z13, z14, z15, z16, z17, z18, z19, z20, z21, z22, w1, w2, w3⟩ | ⟨z1, z2, z3, z4, z5, z6, z7, z8, z9, z10, z11, z12, z13, z14, z15, z16, z17, z18, z19, z20, z21, z22, z23, z24, z25, w1, w2, w3, w4, w5⟩
          · exact Or.inl ⟨z1, z2, z3, z4, z5, z6, z7, z8, z9, z10, z11, z12, z13, z14, z15, z16, z17, z18, z19, z20, z21, z22, w1, fun ρ k100 k121 => (X ρ k100 k121).trans (w2 ρ k100 k121), fun ρ k60 => (Y ρ k60).trans (w3 ρ k60)⟩
          · exact Or.inr ⟨z1, z2, z3, z4, z5, z6, z7, z8, z9, z10, z11, z12, z13, z14, z15, z16, z17, z18, z19, z20, z21, z22, z23, z24, z25, w1, w2, w3, fun ρ k100 k121 => (X ρ k100 k121).trans (w4 ρ k100 k121), fun ρ k60 => (Y ρ k60).trans (w5 ρ k60)⟩
      · rcases wantsI hN T hj hs hS v sl wc wb sw sn sm ss wd with ⟨s', p1, t1, v1, c2, t2, m2, wc1, wb1, sm2, ss2, wd1, k1, k2, k3⟩ | ⟨a, l', j', s1, v1, wc1, wb1, ss2, wd1, ha, e1, e2, e3, k4, k5, e6, e7, e8, e9, e10, k2, k3⟩
        · refine Or.inl ⟨s', p1, t1, v1, lt, nI S, law, weight, nights, wc1, wb1, wd1, c2, t2, m2, nI (i + 1), nI S, sl, sw, sn, sm2, ss2, by omega, fun ρ k100 k121 => ?_, fun ρ k60 => ?_⟩
          · rw [f_X4_read_l25, if_neg h150, if_neg e256, if_neg (by decide), if_pos rfl, k2]
            unfold f_X4_read_j95
            rw [if_pos rfl]
          · rw [f_X8_house_l29, if_neg (by decide), if_pos rfl, k3, l29_w, nI_1]
        · obtain ⟨s3, j3, t3, v3, t3', n3, o1, o2, o3, o4, tk3, x3, y3⟩ := tok hN T k5 v1
          have key := ih (i + 1) j3 s3 S t3 v3 t3' n3 lt law sl _ _ _ _ _ _ _ _ _ _ _ _ n1 (n2 + 1) (by omega) (by omega) (by omega) o3 o2 (fun q => by have := o4 q; omega) tk3 (Rd_w hR ha e1 e2 e3 e6 e7 e8 e9 e10) hW
          have X : ∀ (ρ : Type) (k100 : Int32 → Int32 → Int32 → Int32 → Int32 → Int32 → Int32 → (Nat → Int32) → (Nat → Int32) → (Nat → Int32) → (Nat → Int32) → (Nat → Nat → Int32) → Option ρ) (k121 : Int32 → Int32 → Int32 → Int32 → Int32 → Int32 → Int32 → Int32 → (Nat → Int32) → (Nat → Int32) → (Nat → Int32) → (Nat → Int32) → (Nat → Nat → Int32) → Option ρ), f_X4_read_l25 (nI L) letters k100 k121 N (n1 + 1) (nI i) (nI i) (nI j) (nI s) 119 v lt (nI S) law weight nights wc wb wd = f_X4_read_l25 (nI L) letters k100 k121 N n1 (nI (i + 1)) (nI (i + 1)) (nI j3) (nI s3) t3 v3 lt (nI S) law weight nights wc1 wb1 wd1 := fun ρ k100 k121 => by
            rw [f_X4_read_l25, if_neg h150, if_neg e256, if_neg (by decide), if_pos rfl, k2]
            unfold f_X4_read_j95
            rw [if_neg (by decide), x3, nI_1]
          have Y : ∀ (ρ : Type) (k60 : Int32 → Int32 → Int32 → Int32 → Int32 → Int32 → Int32 → Int32 → (Nat → Int32) → (Nat → Int32) → (Nat → Int32) → (Nat → Int32) → Option ρ), f_X8_house_l29 (nI L) text k60 N (n2 + 1 + 1) (nI j) (nI s) 1 119 0 (nI i) (nI S) sl sw sn sm ss = f_X8_house_l29 (nI L) text k60 N (n2 + 1) (nI j3) (nI s3) t3' n3 0 (nI (i + 1)) (nI S) sl sw sn (upd sm a (nI l'.length)) ss2 := fun ρ k60 => by
            rw [f_X8_house_l29, if_neg (by decide), if_pos rfl, k3, y3, nI_1]
          rcases key with ⟨z1, z2, z3, z4, z5, z6, z7, z8, z9, z10, z11, z12, z13, z14, z15, z16, z17, z18, z19, z20, z21, z22, w1, w2, w3⟩ | ⟨z1, z2, z3, z4, z5, z6, z7, z8, z9, z10, z11, z12, z13, z14, z15, z16, z17, z18, z19, z20, z21, z22, z23, z24, z25, w1, w2, w3, w4, w5⟩
          · exact Or.inl ⟨z1, z2, z3, z4, z5, z6, z7, z8, z9, z10, z11, z12, z13, z14, z15, z16, z17, z18, z19, z20, z21, z22, w1, fun ρ k100 k121 => (X ρ k100 k121).trans (w2 ρ k100 k121), fun ρ k60 => (Y ρ k60).trans (w3 ρ k60)⟩
          · exact Or.inr ⟨z1, z2, z3, z4, z5, z6, z7, z8, z9, z10, z11, z12, z13, z14, z15, z16, z17, z18, z19, z20, z21, z22, z23, z24, z25, w1, w2, w3, fun ρ k100 k121 => (X ρ k100 k121).trans (w4 ρ k100 k121), fun ρ k60 => (Y ρ k60).trans (w5 ρ k60)⟩
      · rcases lawI hN T hj hs v lt law sl (nI S) hW sw sn sm ss with ⟨s', p1, t1, v1, lt1, law1, c2, t2, m2, sl2, k1, k2, k3⟩ | ⟨w, j', s1, v1, hw2, k4, k5, k2, k3⟩
        · refine Or.inl ⟨s', p1, t1, v1, lt1, nI S, law1, weight, nights, wc, wb, wd, c2, t2, m2, nI (i + 1), nI S, sl2, sw, sn, sm, ss, by omega, fun ρ k100 k121 => ?_, fun ρ k60 => ?_⟩
          · rw [f_X4_read_l25, if_neg h150, if_neg e256, if_neg (by decide), if_neg (by decide), if_pos rfl, k2, if_pos rfl]
            unfold f_X4_read_j94 f_X4_read_j95
            rw [if_pos rfl]
          · rw [f_X8_house_l29, if_neg (by decide), if_pos rfl, k3, l29_w, nI_1]
        · obtain ⟨s3, j3, t3, v3, t3', n3, o1, o2, o3, o4, tk3, x3, y3⟩ := tok hN T k5 v1
          have key := ih (i + 1) j3 s3 S t3 v3 t3' n3 1 (nI w) (nI w) WL WT NT weight nights wc wb wd sw sn sm ss n1 (n2 + 1) (by omega) (by omega) (by omega) o3 o2 (fun q => by have := o4 q; omega) tk3 hR (Or.inr ⟨rfl, w, hw2, rfl, rfl⟩)
          have X : ∀ (ρ : Type) (k100 : Int32 → Int32 → Int32 → Int32 → Int32 → Int32 → Int32 → (Nat → Int32) → (Nat → Int32) → (Nat → Int32) → (Nat → Int32) → (Nat → Nat → Int32) → Option ρ) (k121 : Int32 → Int32 → Int32 → Int32 → Int32 → Int32 → Int32 → Int32 → (Nat → Int32) → (Nat → Int32) → (Nat → Int32) → (Nat → Int32) → (Nat → Nat → Int32) → Option ρ), f_X4_read_l25 (nI L) letters k100 k121 N (n1 + 1) (nI i) (nI i) (nI j) (nI s) 108 v lt (nI S) law weight nights wc wb wd = f_X4_read_l25 (nI L) letters k100 k121 N n1 (nI (i + 1)) (nI (i + 1)) (nI j3) (nI s3) t3 v3 1 (nI S) (nI w) weight nights wc wb wd := fun ρ k100 k121 => by
            rw [f_X4_read_l25, if_neg h150, if_neg e256, if_neg (by decide), if_neg (by decide), if_pos rfl, k2, if_neg (by decide)]
            unfold f_X4_read_j95
            rw [if_neg (by decide), x3, nI_1]
          have Y : ∀ (ρ : Type) (k60 : Int32 → Int32 → Int32 → Int32 → Int32 → Int32 → Int32 → Int32 → (Nat → Int32) → (Nat → Int32) → (Nat → Int32) → (Nat → Int32) → Option ρ), f_X8_house_l29 (nI L) text k60 N (n2 + 1 + 1) (nI j) (nI s) 1 108 0 (nI i) (nI S) sl sw sn sm ss = f_X8_house_l29 (nI L) text k60 N (n2 + 1) (nI j3) (nI s3) t3' n3 0 (nI (i + 1)) (nI S) (nI w) sw sn sm ss := fun ρ k60 => by
            rw [f_X8_house_l29, if_neg (by decide), if_pos rfl, k3, y3, nI_1]
          rcases key with ⟨z1, z2, z3, z4, z5, z6, z7, z8, z9, z10, z11, z12, z13, z14, z15, z16, z17, z18, z19, z20, z21, z22, w1, w2, w3⟩ | ⟨z1, z2, z3, z4, z5, z6, z7, z8, z9, z10, z11, z12, z13, z14, z15, z16, z17, z18, z19, z20, z21, z22, z23, z24, z25, w1, w2, w3, w4, w5⟩
          · exact Or.inl ⟨z1, z2, z3, z4, z5, z6, z7, z8, z9, z10, z11, z12, z13, z14, z15, z16, z17, z18, z19, z20, z21, z22, w1, fun ρ k100 k121 => (X ρ k100 k121).trans (w2 ρ k100 k121), fun ρ k60 => (Y ρ k60).trans (w3 ρ k60)⟩
          · exact Or.inr ⟨z1, z2, z3, z4, z5, z6, z7, z8, z9, z10, z11, z12, z13, z14, z15, z16, z17, z18, z19, z20, z21, z22, z23, z24, z25, w1, w2, w3, fun ρ k100 k121 => (X ρ k100 k121).trans (w4 ρ k100 k121), fun ρ k60 => (Y ρ k60).trans (w5 ρ k60)⟩
      · refine Or.inl ⟨s, nI j, 59, v, lt, nI S, law, weight, nights, wc, wb, wd, nI j, 3, n, nI (i + 1), nI S, sl, sw, sn, sm, ss, by omega, fun ρ k100 k121 => ?_, fun ρ k60 => ?_⟩
        · rw [f_X4_read_l25, if_neg h150, if_neg e256, if_neg (by decide), if_neg (by decide), if_neg (by decide)]
          unfold f_X4_read_j94 f_X4_read_j95
          rw [if_pos rfl]
        · rw [f_X8_house_l29, if_neg (by decide), if_pos rfl, readItem_b _ _ _ _ _ _ _ (by decide), l29_w, nI_1]
      · refine Or.inl ⟨s, nI j, t, v, lt, nI S, law, weight, nights, wc, wb, wd, nI j, 4, n, nI (i + 1), nI S, sl, sw, sn, sm, ss, by omega, fun ρ k100 k121 => ?_, fun ρ k60 => ?_⟩
        · rw [f_X4_read_l25, if_neg h150, if_neg e256, if_neg q3, if_neg q4, if_neg q5]
          unfold f_X4_read_j94 f_X4_read_j95
          rw [if_pos rfl]
        · rw [f_X8_house_l29, if_neg (by decide), if_pos rfl, readItem_b _ _ _ _ _ _ _ (by decide), l29_w, nI_1]

