theorem for_find {R : Type} {F : Nat → Int32 → R} {p : Nat → Bool} {hit : Nat → R} {N : Nat}
    (hs : ∀ n k, k < N → F (n + 1) (nI k) = if p k then hit k else F n (nI (k + 1))) : ∀ (n k j : Nat), N - k ≤ n → fst p k (N - k) = some j → F n (nI k) = hit j := by
  intro n
  induction n with
  | zero =>
    intro k j h1 h2
    have : N - k = 0 := by omega
    rw [this] at h2
    cases h2
  | succ n ih =>
    intro k j h1 h2
    by_cases hk : k < N
    · have e : N - k = (N - (k + 1)) + 1 := by omega
      rw [hs n k hk]
      rw [e] at h2
      unfold fst at h2
      cases hp : p k with
      | true =>
        rw [hp, if_pos rfl] at h2
        rw [if_pos rfl, Option.some.inj h2]
      | false =>
        rw [hp, if_neg (by decide)] at h2
        rw [if_neg (by decide)]
        exact ih (k + 1) j (by omega) h2
    · have : N - k = 0 := by omega
      rw [this] at h2
      cases h2
theorem btb {p : Nat → Bool} {N i : Nat} (hN : N ≤ 20) (hi : i < N) : bt (nI (bs p N)) i = p i := by
  rw [bt_nI (by omega), bs_bit]
  simp [hi]
theorem isToWait_eq {N l : Nat} {g : AH} {t w : Nat → Nat} {p : Nat → Bool} (hN : N ≤ 20) (hl : l < N) (ht : ∀ i, i < N → t i ≤ 99) (hw : ∀ i, i < N → w i ≤ 99) (R : ∀ i, i < N → g.1 68 i = nI (t i) ∧ g.1 69 i = nI (w i)) : fX8_isToWait (nI l) (nI (bs p N)) (nI N) g = some (if (fst (fun m => p m && btr t w m l) 0 N).isNone then 0 else 1) := by
  unfold fX8_isToWait
  have k := for_fst (F := fun m xx => fX8_isToWait_l3 (nI l) (nI (bs p N)) (nI N) g m xx) (fun m => p m && btr t w m l) (fun _ => some (1 : Int32)) (some (0 : Int32)) N (by omega) (fun m i hi => by
      show fX8_isToWait_l3b (fX8_isToWait_l3 (nI l) (nI (bs p N)) (nI N) g m) (nI l) (nI (bs p N)) (nI N) g (nI i) = _
      unfold fX8_isToWait_l3b
      have l68 : ∀ {a}, a < N → a < aln 68 := fun {a} ha => by show _ < 20; omega
      have l69 : ∀ {a}, a < N → a < aln 69 := fun {a} ha => by show _ < 20; omega
      rw [if_pos (nI_lt hi (by omega)), isIn_bt _ (show i < 32 by omega), btb hN hi, at_in (l68 hi), at_in (l68 hl), at_in (l69 hi), at_in (l69 hl), (R i hi).1, (R i hi).2, (R l hl).1, (R l hl).2, nI_mul, nI_mul, nI_1]
      have b1 : t i * w l ≤ 99 * 99 := Nat.mul_le_mul (ht i hi) (hw l hl)
      have b2 : t l * w i ≤ 99 * 99 := Nat.mul_le_mul (ht l hl) (hw i hi)
      cases hp : p i with
      | false => rw [if_pos ite_f0]; rfl
      | true =>
        rw [if_neg ite_t0, Bool.true_and]
        unfold btr
        by_cases lt : t i * w l < t l * w i
        · rw [if_pos (nI_lt lt (by omega)), decide_eq_true lt]
          rfl
        · rw [if_neg (nI_nlt (by omega) (by omega)), decide_eq_false lt]
          rfl) (fun m => by
      show fX8_isToWait_l3b (fX8_isToWait_l3 (nI l) (nI (bs p N)) (nI N) g m) (nI l) (nI (bs p N)) (nI N) g (nI N) = _
      unfold fX8_isToWait_l3b
      rw [if_neg (nI_nlt (Nat.le_refl _) (by omega))]) fuel0 0 (by omega) (by have := fuel_big; omega)
  rw [Nat.sub_zero] at k
  refine Eq.trans k ?_
  cases fst (fun m => p m && btr t w m l) 0 N <;> rfl
theorem lowest_eq {N l : Nat} {g : AH} {t w : Nat → Nat} {p : Nat → Bool} (hN : N ≤ 20) (ht : ∀ i, i < N → t i ≤ 99) (hw : ∀ i, i < N → w i ≤ 99) (R : ∀ i, i < N → g.1 68 i = nI (t i) ∧ g.1 69 i = nI (w i)) (hl : fst (nxP t w N p) 0 N = some l) : fX8_lowestThatMayBeNext (nI (bs p N)) (nI N) g = some (nI l) := by
  unfold fX8_lowestThatMayBeNext
  refine for_find (F := fun m xx => fX8_lowestThatMayBeNext_l2 (some (fJ6_numberOfTrailingZeros_0f7a4 (nI (bs p N)) g)) (nI (bs p N)) (nI N) g m xx) (p := nxP t w N p) (hit := fun j => some (nI j)) (N := N) (fun m i hi => ?_) fuel0 0 l (by have := fuel_big; omega) hl
  show fX8_lowestThatMayBeNext_l2b (fX8_lowestThatMayBeNext_l2 _ (nI (bs p N)) (nI N) g m) _ (nI (bs p N)) (nI N) g (nI i) = _
  unfold fX8_lowestThatMayBeNext_l2b
  rw [if_pos (nI_lt hi (by omega)), isIn_bt _ (show i < 32 by omega), btb hN hi, isToWait_eq hN hi ht hw R, ob, nI_1]
  unfold nxP
  cases hp : p i with
  | false => rw [if_pos ite_f0]; rfl
  | true =>
    rw [if_neg ite_t0, Bool.true_and]
    cases (fst (fun m => p m && btr t w m i) 0 N).isNone <;> rfl
theorem mayBeNext_eq {N l : Nat} {g : AH} {t w : Nat → Nat} {p : Nat → Bool} (hN : N ≤ 20) (e2 : g.1 75 2 = nI N) (hl : l < N) (ht : ∀ i, i < N → t i ≤ 99) (hw : ∀ i, i < N → w i ≤ 99) (R : ∀ i, i < N → g.1 106 i = nI (t i) ∧ g.1 107 i = nI (w i)) : fX12_mayBeNext (nI l) (nI (bs p N)) g = some (if (fst (fun m => p m && btr t w m l) 0 N).isNone then 1 else 0) := by
  unfold fX12_mayBeNext
  have k := for_fst (F := fun m xx => fX12_mayBeNext_l2 (nI l) (nI (bs p N)) g m xx) (fun m => p m && btr t w m l) (fun _ => some (0 : Int32)) (some (1 : Int32)) N (by omega) (fun m i hi => by
      show fX12_mayBeNext_l2b (fX12_mayBeNext_l2 (nI l) (nI (bs p N)) g m) (nI l) (nI (bs p N)) g (nI i) = _
      unfold fX12_mayBeNext_l2b
      have gi := gd (show i < 20 by omega) (by decide)
      have gl := gd (show l < 20 by omega) (by decide)
      rw [e2, if_pos (nI_lt hi (by omega)), has_bt _ (show i < 32 by omega), btb hN hi, if_neg gl, if_neg gi, if_neg gi, if_neg gl, nI_clamp (show i < 2 ^ 31 by omega), nI_clamp (show l < 2 ^ 31 by omega), (R i hi).1, (R i hi).2, (R l hl).1, (R l hl).2, nI_mul, nI_mul, nI_1, Nat.mul_comm (w l), Nat.mul_comm (w i)]
      have b1 : t i * w l ≤ 99 * 99 := Nat.mul_le_mul (ht i hi) (hw l hl)
      have b2 : t l * w i ≤ 99 * 99 := Nat.mul_le_mul (ht l hl) (hw i hi)
      cases hp : p i with
      | false => rw [if_pos ite_f0]; rfl
      | true =>
        rw [if_neg ite_t0, Bool.true_and]
        unfold btr
        by_cases lt : t i * w l < t l * w i
        · rw [if_pos (nI_lt lt (by omega)), decide_eq_true lt]
          rfl
        · rw [if_neg (nI_nlt (by omega) (by omega)), decide_eq_false lt]
          rfl) (fun m => by
      show fX12_mayBeNext_l2b (fX12_mayBeNext_l2 (nI l) (nI (bs p N)) g m) (nI l) (nI (bs p N)) g (nI N) = _
      unfold fX12_mayBeNext_l2b
      rw [e2, if_neg (nI_nlt (Nat.le_refl _) (by omega))]) fuel0 0 (by omega) (by have := fuel_big; omega)
  rw [Nat.sub_zero] at k
  refine Eq.trans k ?_
  cases fst (fun m => p m && btr t w m l) 0 N <;> rfl
theorem lays72 {N l : Nat} {g : AH} {t w : Nat → Nat} {p : Nat → Bool} {x3 : Int32} {K : Int32 → Option AH} (hN : N ≤ 20) (e2 : g.1 75 2 = nI N) (ht : ∀ i, i < N → t i ≤ 99) (hw : ∀ i, i < N → w i ≤ 99) (R : ∀ i, i < N → g.1 106 i = nI (t i) ∧ g.1 107 i = nI (w i)) (hl : fst (nxP t w N p) 0 N = some l) : fX12_laysOrder_l72 K (nI (bs p N)) x3 g fuel0 0 = K (nI l) := by
  refine for_find (F := fun m xx => fX12_laysOrder_l72 K (nI (bs p N)) x3 g m xx) (p := nxP t w N p) (hit := fun j => K (nI j)) (N := N) (fun m i hi => ?_) fuel0 0 l (by have := fuel_big; omega) hl
  show fX12_laysOrder_l72b (fX12_laysOrder_l72 K (nI (bs p N)) x3 g m) K (nI (bs p N)) x3 g (nI i) = _
  unfold fX12_laysOrder_l72b
  dsimp only [letT]
  rw [has_bt _ (show i < 32 by omega), btb hN hi, mayBeNext_eq hN e2 hi ht hw R, ob, nI_1]
  unfold nxP
  cases hp : p i with
  | false => rw [if_pos ite_f0]; rfl
  | true =>
    rw [if_neg ite_t0, Bool.true_and]
    cases (fst (fun m => p m && btr t w m i) 0 N).isNone <;> rfl
/-- the set without l -/
theorem bs_drop {p : Nat → Bool} {N l : Nat} (hN : N ≤ 20) (hl : l < N) : nI (bs p N) &&& (jshl 1 (nI l) ^^^ -1) = nI (bs (fun m => p m && !decide (m = l)) N) := by
  refine b_ext (fun i hi => ?_)
  rw [b_and, b_xor, b_m1 i hi, bit_nI (by omega), bt_nI hi, bt_nI hi, bt_nI hi, bs_bit, bs_bit, Nat.testBit_two_pow]
  by_cases e : i = l
  · simp [e]
  · have e' : ¬ l = i := fun q => e q.symm
    simp [e, e']
theorem bs_all {N : Nat} (hN : N ≤ 20) : jshl 1 (nI N) - 1 = nI (bs (fun _ => true) N) := by
  have e : bs (fun _ => true) N = 2 ^ N - 1 := by
    induction N with
    | zero => rfl
    | succ n ih =>
      show bs (fun _ => true) n + (if true = true then 2 ^ n else 0) = _
      rw [ih (by omega), if_pos rfl, Nat.pow_succ]
      have := Nat.two_pow_pos n
      omega
  rw [bit_nI (by omega), e, nI_sub1 (Nat.two_pow_pos N)]
/-- the order: what is left before place k, and who comes there -/
def oL (t w : Nat → Nat) (N : Nat) : Nat → (Nat → Bool)
  | 0 => fun _ => true
  | k + 1 => fun m => oL t w N k m && !decide (m = (fst (nxP t w N (oL t w N k)) 0 N).getD 0)
def oN (t w : Nat → Nat) (N k : Nat) : Nat := (fst (nxP t w N (oL t w N k)) 0 N).getD 0
theorem ct_drop {p : Nat → Bool} {l : Nat} : ∀ {N : Nat}, l < N → p l = true → ct (fun m => p m && !decide (m = l)) N + 1 = ct p N := by
  intro N
  induction N with
  | zero => intro h; omega
  | succ n ih =>
    intro hl hp
    rw [ct_succ, ct_succ]
    by_cases e : l = n
    · have : ct (fun m => p m && !decide (m = l)) n = ct p n := ct_cong (fun m hm => by
        have : ¬ m = l := by omega
        simp [this])
      rw [this, ← e, hp]
      simp
    · have := ih (by omega) hp
      have e2 : ¬ n = l := fun q => e q.symm
      have e3 : (p n && !decide (n = l)) = p n := by simp [e2]
      rw [e3]
      omega
theorem ct_tt (n : Nat) : ct (fun _ => true) n = n := by
  induction n with
  | zero => rfl
  | succ n ih => rw [ct_succ, ih]; rfl
theorem oN_spec {t w : Nat → Nat} {N : Nat} : ∀ k, k ≤ N → ct (oL t w N k) N = N - k ∧ (k < N → fst (nxP t w N (oL t w N k)) 0 N = some (oN t w N k)) := by
  intro k
  induction k with
  | zero =>
    intro _
    have c0 : ct (oL t w N 0) N = N := ct_tt N
    refine ⟨c0, fun hk => ?_⟩
    obtain ⟨l, hl⟩ := nx_ex (t := t) (w := w) (N := N) (p := oL t w N 0) ⟨0, hk, rfl⟩
    unfold oN
    rw [hl]
    rfl
  | succ k ih =>
    intro hk
    obtain ⟨h1, h2⟩ := ih (by omega)
    have hf := h2 (by omega)
    have hs := fst_some hf
    have hpl : oL t w N k (oN t w N k) = true := by
      have := hs.2.2.1
      unfold nxP at this
      simp only [Bool.and_eq_true] at this
      exact this.1
    have hc : ct (oL t w N (k + 1)) N = N - (k + 1) := by
      have := ct_drop (p := oL t w N k) (l := oN t w N k) (N := N) (by omega) hpl
      show ct (fun m => oL t w N k m && !decide (m = oN t w N k)) N = _
      omega
    refine ⟨hc, fun hk2 => ?_⟩
    have : ∃ l, l < N ∧ oL t w N (k + 1) l = true := by
      apply Classical.byContradiction
      intro q
      have z : ct (oL t w N (k + 1)) N = 0 := by
        rw [ct_fst]
        refine fst_nil (fun i _ hi => ?_)
        cases hb : oL t w N (k + 1) i with
        | false => rfl
        | true => exact absurd ⟨i, by omega, hb⟩ q
      omega
    obtain ⟨l, hl⟩ := nx_ex (t := t) (w := w) (N := N) this
    unfold oN
    rw [hl]
    rfl
