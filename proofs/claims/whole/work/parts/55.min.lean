/-! ===== the least of the fewest ===== -/
theorem rbest_min {P : Nat} {Tg : Nat → Bool} : ∀ {k : Nat}, (∀ b, rbest P Tg k = some b → b < k ∧ sbs b P = true ∧ Tg b = true ∧ ∀ s, s < k → sbs s P = true → Tg s = true → pop b < pop s ∨ (pop b = pop s ∧ b ≤ s)) ∧ (rbest P Tg k = none → ∀ s, s < k → sbs s P = true → Tg s = true → False) := by
  intro k
  induction k with
  | zero => exact ⟨fun b h => (by cases h), fun _ s hs => absurd hs (Nat.not_lt_zero _)⟩
  | succ k ih =>
    obtain ⟨ih1, ih2⟩ := ih
    rw [rbest_succ]
    unfold rst
    cases h1 : sbs k P with
    | false =>
      simp only [Bool.false_and, Bool.false_eq_true, if_false]
      refine ⟨fun b hb => ?_, fun hn s hs h2 h3 => ?_⟩
      · obtain ⟨a1, a2, a3, a4⟩ := ih1 b hb
        refine ⟨by omega, a2, a3, fun s hs h2 h3 => ?_⟩
        by_cases e : s = k
        · rw [e, h1] at h2; cases h2
        · exact a4 s (by omega) h2 h3
      · by_cases e : s = k
        · rw [e, h1] at h2; cases h2
        · exact ih2 hn s (by omega) h2 h3
    | true =>
      cases h2 : Tg k with
      | false =>
        simp only [Bool.and_false, Bool.false_eq_true, if_false]
        refine ⟨fun b hb => ?_, fun hn s hs h3 h4 => ?_⟩
        · obtain ⟨a1, a2, a3, a4⟩ := ih1 b hb
          refine ⟨by omega, a2, a3, fun s hs h3 h4 => ?_⟩
          by_cases e : s = k
          · rw [e, h2] at h4; cases h4
          · exact a4 s (by omega) h3 h4
        · by_cases e : s = k
          · rw [e, h2] at h4; cases h4
          · exact ih2 hn s (by omega) h3 h4
      | true =>
        cases ho : rbest P Tg k with
        | none =>
          simp only [Option.elim, Bool.and_self, if_true]
          refine ⟨fun b hb => ?_, fun hn => by cases hn⟩
          have : k = b := Option.some.inj hb
          subst this
          refine ⟨by omega, h1, h2, fun s hs h3 h4 => ?_⟩
          by_cases e : s = k
          · exact Or.inr ⟨by rw [e], by omega⟩
          · exact (ih2 ho s (by omega) h3 h4).elim
        | some c =>
          obtain ⟨a1, a2, a3, a4⟩ := ih1 c ho
          by_cases lt : pop k < pop c
          · simp only [Option.elim, lt, decide_true, Bool.and_self, if_true]
            refine ⟨fun b hb => ?_, fun hn => by cases hn⟩
            have : k = b := Option.some.inj hb
            subst this
            refine ⟨by omega, h1, h2, fun s hs h3 h4 => ?_⟩
            by_cases e : s = k
            · exact Or.inr ⟨by rw [e], by omega⟩
            · have := a4 s (by omega) h3 h4
              omega
          · simp only [Option.elim, lt, decide_false, Bool.and_false, Bool.false_and, Bool.false_eq_true, if_false]
            refine ⟨fun b hb => ?_, fun hn => by cases hn⟩
            have : c = b := Option.some.inj hb
            subst this
            refine ⟨by omega, a2, a3, fun s hs h3 h4 => ?_⟩
            by_cases e : s = k
            · rw [e]; omega
            · exact a4 s (by omega) h3 h4
theorem rbest_is {P k b : Nat} {Tg : Nat → Bool} (hb : b < k) (h1 : sbs b P = true) (h2 : Tg b = true) (h3 : ∀ s, s < k → sbs s P = true → Tg s = true → pop b < pop s ∨ (pop b = pop s ∧ b ≤ s)) : rbest P Tg k = some b := by
  obtain ⟨m1, m2⟩ := rbest_min (P := P) (Tg := Tg) (k := k)
  cases ho : rbest P Tg k with
  | none => exact (m2 ho b hb h1 h2).elim
  | some c =>
    obtain ⟨a1, a2, a3, a4⟩ := m1 c ho
    have x := h3 c a1 a2 a3
    have y := a4 b hb h1 h2
    have : c = b := by omega
    rw [this]
theorem or_two {x n : Nat} (h : x < 2 ^ n) : x ||| 2 ^ n = x + 2 ^ n := by
  have := Nat.two_pow_add_eq_or_of_lt h 1
  rw [Nat.mul_one] at this
  rw [Nat.or_comm, ← this, Nat.add_comm]
theorem pop_or {x n : Nat} (h : x < 2 ^ n) (hn : n < 20) : pop (x ||| 2 ^ n) = pop x + 1 := by
  unfold pop
  have hb : ∀ i, (x ||| 2 ^ n).testBit i = (x.testBit i || decide (n = i)) := fun i => by rw [Nat.testBit_or, Nat.testBit_two_pow]
  have := ct_drop (p := (x ||| 2 ^ n).testBit) (l := n) (N := 20) hn (by rw [hb]; simp)
  have e : ct (fun m => (x ||| 2 ^ n).testBit m && !decide (m = n)) 20 = ct x.testBit 20 := ct_cong (fun m _ => by
    rw [hb]
    by_cases e : m = n
    · rw [e, tb_big h (Nat.le_refl _)]; simp
    · have e' : ¬ n = m := fun q => e q.symm
      simp [e, e'])
  omega
theorem pop_20 (x : Nat) : pop x ≤ 20 := ct_le _ 20
/-- a set below 2^(j+1): without j, or with it -/
theorem two_cases {X j : Nat} (h : X < 2 ^ (j + 1)) : X < 2 ^ j ∨ ∃ Y, Y < 2 ^ j ∧ X = Y ||| 2 ^ j := by
  by_cases a : X < 2 ^ j
  · exact Or.inl a
  · refine Or.inr ⟨X - 2 ^ j, ?_, ?_⟩
    · rw [Nat.pow_succ] at h; omega
    · rw [or_two (by rw [Nat.pow_succ] at h; omega)]; omega
theorem and_nz {a b : Nat} : ¬ (a &&& b = 0) ↔ ∃ i, a.testBit i = true ∧ b.testBit i = true := by
  constructor
  · intro h
    apply Classical.byContradiction
    intro q
    exact h (Nat.eq_of_testBit_eq (fun i => by
      rw [Nat.testBit_and, Nat.zero_testBit]
      cases ha : a.testBit i with
      | false => rfl
      | true =>
        cases hb : b.testBit i with
        | false => rfl
        | true => exact absurd ⟨i, ha, hb⟩ q))
  · rintro ⟨i, ha, hb⟩ h
    have : (a &&& b).testBit i = (0 : Nat).testBit i := by rw [h]
    rw [Nat.testBit_and, ha, hb, Nat.zero_testBit] at this
    cases this
theorem pop_sub {s t : Nat} (h : ∀ i, i < 20 → s.testBit i = true → t.testBit i = true) : pop s ≤ pop t := by
  have key : ∀ n, n ≤ 20 → ct s.testBit n ≤ ct t.testBit n := by
    intro n
    induction n with
    | zero => intro _; exact Nat.le_refl _
    | succ n ih =>
      intro hn
      rw [ct_succ, ct_succ]
      have a := ih (by omega)
      have b : (s.testBit n).toNat ≤ (t.testBit n).toNat := by
        cases hs : s.testBit n with
        | false => exact Nat.zero_le _
        | true => rw [h n (by omega) hs]; exact Nat.le_refl _
      omega
  exact key 20 (Nat.le_refl _)
