/-! 32.rounds: what holds of the rounds of a night -/
theorem popc_dif {s C : Nat} (h : sub C s) : ∀ n, popc (dif s C) n + popc C n = popc s n
  | 0 => rfl
  | n + 1 => by
    have := popc_dif h n
    rw [popc, popc, popc, dif_bit]
    have h1 := h n
    cases e1 : C.testBit n
    · cases e2 : s.testBit n <;> simp <;> omega
    · rw [h1 e1]; simp; omega
theorem popc_dis {a b : Nat} (h : ∀ p, b.testBit p = true → a.testBit p = false) : ∀ n, popc (a ||| b) n = popc a n + popc b n
  | 0 => rfl
  | n + 1 => by
    have := popc_dis h n
    rw [popc, popc, popc, Nat.testBit_or]
    have h1 := h n
    cases e1 : b.testBit n
    · cases e2 : a.testBit n <;> simp <;> omega
    · rw [h1 e1]; simp; omega
theorem popc_pos {g i : Nat} (h : g.testBit i = true) : ∀ {n}, i < n → 0 < popc g n
  | 0, hi => absurd hi (by omega)
  | n + 1, hi => by
    rw [popc]
    by_cases e : i = n
    · subst e; rw [h]; simp
    · have := popc_pos h (show i < n by omega); omega
theorem sub_two (s p : Nat) (h : s.testBit p = true) : sub (2 ^ p) s := fun j hj => by
  rw [Nat.testBit_two_pow, decide_eq_true_eq] at hj; subst hj; exact h
theorem popc_two {p : Nat} : ∀ {n}, popc (2 ^ p) n = if p < n then 1 else 0
  | 0 => by simp [popc]
  | n + 1 => by
    rw [popc, popc_two, Nat.testBit_two_pow]
    by_cases e : p = n
    · subst e; simp
    · by_cases e2 : p < n
      · simp [e, e2, show p < n + 1 by omega]
      · simp [e, e2, show ¬ p < n + 1 by omega]
theorem zero_of {P s : Nat} (hs : s < 2 ^ P) (h : ∀ p, p < P → s.testBit p = false) : s = 0 := Nat.eq_of_testBit_eq (fun i => by
  rw [Nat.zero_testBit]
  by_cases e : i < P
  · exact h i e
  · exact bit_out hs (by omega))
theorem sub_lt {P s g : Nat} (hP : P ≤ 6) (h : sub s g) (hg : g < 2 ^ P) : s < 2 ^ P := lt_two hP (fun i hi => by
  cases e : s.testBit i
  · rfl
  · have := h i e; rw [bit_out hg hi] at this; exact absurd this (by decide))
theorem bit_lt {P g p : Nat} (hg : g < 2 ^ P) (h : g.testBit p = true) : p < P := by
  apply Nat.lt_of_not_le
  intro q
  rw [bit_out hg q] at h
  exact absurd h (by decide)
/-- the lowest, or none -/
theorem low_cases (f : Nat → Bool) : ∀ n, (∀ q, q < n → f q = false) ∨ ∃ p, p < n ∧ f p = true ∧ ∀ q, q < p → f q = false
  | 0 => Or.inl (fun q h => absurd h (by omega))
  | n + 1 => by
    rcases low_cases f n with h | ⟨p, h1, h2⟩
    · cases e : f n with
      | false => exact Or.inl (fun q hq => by
          by_cases e2 : q = n
          · subst e2; exact e
          · exact h q (by omega))
      | true => exact Or.inr ⟨n, by omega, e, h⟩
    · exact Or.inr ⟨p, by omega, h2⟩
theorem dumb_t {P : Nat} {WL : Nat → List Nat} {WT hs : Nat → Nat} {w s p : Nat} : dumb P WL WT hs w s p = true ↔ s.testBit p = true ∧ aimP P WL WT hs w s p = 6 := by
  unfold dumb; rw [Bool.and_eq_true_iff, decide_eq_true_eq]
theorem dumb_f {P : Nat} {WL : Nat → List Nat} {WT hs : Nat → Nat} {w s p : Nat} : dumb P WL WT hs w s p = false ↔ (s.testBit p = true → aimP P WL WT hs w s p ≠ 6) := by
  rw [← Bool.not_eq_true, dumb_t]
  exact ⟨fun h h1 h2 => h ⟨h1, h2⟩, fun h h1 => h h1.1 h1.2⟩
/-- where nobody is dumb, the steps stay within -/
theorem aim_in {P g : Nat} (hP : P ≤ 6) {WL : Nat → List Nat} {WT hs : Nat → Nat} {w s : Nat} (hs1 : s < 2 ^ P) (h : ∀ q, q < P → dumb P WL WT hs w s q = false) : ∀ p, s.testBit p = true → s.testBit (aimP P WL WT hs w s p) = true := fun p hp => (aimP_in hP (dumb_f.mp (h p (bit_lt hs1 hp)) hp)).2
theorem round_dumb {P : Nat} {WL : Nat → List Nat} {WT hs : Nat → Nat} {w p : Nat} {σ : NS} (hp : p < P) (h1 : dumb P WL WT hs w σ.1 p = true) (h2 : ∀ q, q < p → dumb P WL WT hs w σ.1 q = false) : roundF P WL WT hs w σ = ⟨dif σ.1 (2 ^ p), σ.2.1, σ.2.2.1 ++ [hs p], σ.2.2.2⟩ := by
  unfold roundF
  rw [lowest_eq h1 hp h2, if_pos hp]
theorem round_ring {P : Nat} {WL : Nat → List Nat} {WT hs : Nat → Nat} {w q : Nat} {σ : NS} (h1 : ∀ q, q < P → dumb P WL WT hs w σ.1 q = false) (hq : q < P) (h2 : σ.1.testBit q = true) (h3 : ∀ q', q' < q → σ.1.testBit q' = false) : roundF P WL WT hs w σ = ⟨dif σ.1 (ringS (aimP P WL WT hs w σ.1) q), σ.2.1 ||| ringS (aimP P WL WT hs w σ.1) q, σ.2.2.1, fun p => if (ringS (aimP P WL WT hs w σ.1) q).testBit p then hs (aimP P WL WT hs w σ.1 p) else σ.2.2.2 p⟩ := by
  unfold roundF
  rw [lowest_none h1, if_neg (by omega), lowest_eq (f := fun p => σ.1.testBit p) h2 hq h3]
theorem NI_round {P g : Nat} (hP : P ≤ 6) {WL : Nat → List Nat} {WT hs : Nat → Nat} {w : Nat} {σ : NS} (I : NI P g hs σ) (h0 : σ.1 ≠ 0) : NI P g hs (roundF P WL WT hs w σ) ∧ popc (roundF P WL WT hs w σ).1 6 < popc σ.1 6 := by
  have hsP := sub_lt hP I.sg I.gP
  rcases low_cases (dumb P WL WT hs w σ.1) P with h | ⟨p, hp, h1, h2⟩
  · rcases low_cases (fun p => σ.1.testBit p) P with hz | ⟨q, hq, h1, h2⟩
    · exact absurd (zero_of hsP hz) h0
    rw [round_ring h hq h1 h2]
    have hin := aim_in (g := g) hP hsP h
    have hC := ring_in hin h1
    have h6 : ∀ n, it (aimP P WL WT hs w σ.1) n q < 6 := fun n => by have := bit_lt hsP (it_in hin h1 n); omega
    have hne := ring_ne (nx := aimP P WL WT hs w σ.1) (q := q)
    have hCr : ∀ p, (ringS (aimP P WL WT hs w σ.1) q).testBit p = true → σ.2.1.testBit p = false := fun p hp => I.dis p (hC p hp)
    have hpc := popc_dif hC 6
    have hpos := popc_pos hne (h6 6)
    refine ⟨⟨I.gP, I.hgl, I.hgi, fun p hp => I.sg p (sub_dif _ _ p hp), fun p hp => ?_, fun p hp => ?_, fun p hp => ?_, fun p hp => ?_, fun p q' hp hq' e => ?_, ?_, I.Lg⟩, ?_⟩
    · rw [Nat.testBit_or, Bool.or_eq_true_iff] at hp
      rcases hp with hp | hp
      · exact I.rgg p hp
      · exact I.sg p (hC p hp)
    · dsimp only at *
      rw [dif_bit, Bool.and_eq_true_iff] at hp
      rw [Nat.testBit_or, I.dis p hp.1]
      simpa using hp.2
    · dsimp only at *
      rw [Nat.testBit_or, Bool.or_eq_false_iff] at hp
      rw [hp.2]
      exact I.gt6 p hp.1
    · dsimp only at *
      cases e : (ringS (aimP P WL WT hs w σ.1) q).testBit p with
      | true => exact ⟨_, by rw [Nat.testBit_or, ring_nx h6 e, Bool.or_true], rfl⟩
      | false =>
        rw [Nat.testBit_or, e, Bool.or_false] at hp
        obtain ⟨p', q1, q2⟩ := I.gtr p hp
        exact ⟨p', by rw [Nat.testBit_or, q1, Bool.true_or], q2⟩
    · dsimp only at *
      have cross : ∀ a b, (ringS (aimP P WL WT hs w σ.1) q).testBit a = true → σ.2.1.testBit b = true → hs (aimP P WL WT hs w σ.1 a) = σ.2.2.2 b → False := fun a b ha hb e => by
        obtain ⟨b', q1, q2⟩ := I.gtr b hb
        have ha2 := ring_nx h6 ha
        have hsa := I.sg _ (hC _ ha2)
        have := I.hgi _ _ (bit_lt I.gP hsa) (bit_lt I.gP (I.rgg _ q1)) hsa (I.rgg _ q1) (by rw [e, q2])
        rw [this] at ha2
        rw [hCr _ ha2] at q1
        exact absurd q1 (by decide)
      rw [Nat.testBit_or] at hp hq'
      cases e1 : (ringS (aimP P WL WT hs w σ.1) q).testBit p with
      | true =>
        cases e2 : (ringS (aimP P WL WT hs w σ.1) q).testBit q' with
        | true =>
          rw [e1, e2] at e
          have a1 := I.sg _ (hC _ (ring_nx h6 e1))
          have a2 := I.sg _ (hC _ (ring_nx h6 e2))
          exact ring_inj h6 e1 e2 (I.hgi _ _ (bit_lt I.gP a1) (bit_lt I.gP a2) a1 a2 e)
        | false =>
          rw [e1, e2] at e
          rw [e2, Bool.or_false] at hq'
          exact (cross p q' e1 hq' e).elim
      | false =>
        rw [e1, Bool.or_false] at hp
        cases e2 : (ringS (aimP P WL WT hs w σ.1) q).testBit q' with
        | true =>
          rw [e1, e2] at e
          exact (cross q' p e2 hp e.symm).elim
        | false =>
          rw [e1, e2] at e
          rw [e2, Bool.or_false] at hq'
          exact I.gti p q' hp hq' e
    · dsimp only
      rw [popc_dis hCr]
      have := I.len
      omega
    · dsimp only; omega
  · rw [round_dumb hp h1 h2]
    have hsp := (dumb_t.mp h1).1
    have hpc := popc_dif (sub_two σ.1 p hsp) 6
    rw [popc_two, if_pos (by omega)] at hpc
    refine ⟨⟨I.gP, I.hgl, I.hgi, fun q hq => I.sg q (sub_dif _ _ q hq), I.rgg, fun q hq => I.dis q (sub_dif _ _ q hq), I.gt6, I.gtr, I.gti, ?_, fun h hh => ?_⟩, ?_⟩
    · dsimp only
      have := I.len
      rw [List.length_append, List.length_singleton]
      omega
    · rcases List.mem_append.mp hh with hh | hh
      · exact I.Lg h hh
      · rw [List.mem_singleton] at hh
        subst hh
        exact I.hgl p hp (I.sg p hsp)
    · dsimp only; omega
theorem night_end {P g : Nat} (hP : P ≤ 6) {WL : Nat → List Nat} {WT hs : Nat → Nat} {w : Nat} : ∀ (d : Nat) (σ : NS), popc σ.1 6 ≤ d → NI P g hs σ → NI P g hs (nightF P WL WT hs w d σ) ∧ (nightF P WL WT hs w d σ).1 = 0
  | 0, σ, hd, I => by
    refine ⟨I, zero_of (sub_lt hP I.sg I.gP) (fun p hp => ?_)⟩
    cases e : σ.1.testBit p with
    | false => exact e
    | true => have := popc_pos e (show p < 6 by omega); omega
  | d + 1, σ, hd, I => by
    rw [nightF]
    by_cases h0 : σ.1 = 0
    · rw [if_pos h0]; exact ⟨I, h0⟩
    · rw [if_neg h0]
      have h1 := NI_round (WL := WL) (WT := WT) (w := w) hP I h0
      exact night_end hP d _ (by omega) h1.1
/-- a whole night of those in g -/
def N0 (g : Nat) : NS := ⟨g, 0, [], fun _ => 6⟩
def Nt (P : Nat) (WL : Nat → List Nat) (WT hs : Nat → Nat) (w g : Nat) : NS := nightF P WL WT hs w 6 (N0 g)
theorem popc_0 : ∀ n, popc 0 n = 0
  | 0 => rfl
  | n + 1 => by rw [popc, popc_0, Nat.zero_testBit]; rfl
theorem NI_0 {P g : Nat} {hs : Nat → Nat} (hg : g < 2 ^ P) (h1 : ∀ p, p < P → g.testBit p = true → hs p < P) (h2 : ∀ p q, p < P → q < P → g.testBit p = true → g.testBit q = true → hs p = hs q → p = q) : NI P g hs (N0 g) :=
  ⟨hg, h1, h2, sub_self g, fun p hp => by rw [N0, Nat.zero_testBit] at hp; exact absurd hp (by decide), fun p _ => Nat.zero_testBit p, fun p _ => rfl, fun p hp => by rw [N0, Nat.zero_testBit] at hp; exact absurd hp (by decide), fun p q hp => by rw [N0, Nat.zero_testBit] at hp; exact absurd hp (by decide), by simp [N0, popc_0], fun h hh => by simp [N0] at hh⟩
theorem Nt_end {P g : Nat} (hP : P ≤ 6) {WL : Nat → List Nat} {WT hs : Nat → Nat} {w : Nat} (hg : g < 2 ^ P) (h1 : ∀ p, p < P → g.testBit p = true → hs p < P) (h2 : ∀ p q, p < P → q < P → g.testBit p = true → g.testBit q = true → hs p = hs q → p = q) : NI P g hs (Nt P WL WT hs w g) ∧ (Nt P WL WT hs w g).1 = 0 := night_end hP 6 (N0 g) (popc_le _ 6) (NI_0 hg h1 h2)

