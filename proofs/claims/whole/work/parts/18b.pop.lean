/-! ===== Integer.bitCount counts bits (of numbers below 2^20) ===== -/
theorem jushr_nI {a k : Nat} (ha : a < 2 ^ 31) (hk : k < 32) : jushr (nI a) (nI k) = nI (a >>> k) := by
  unfold jushr
  refine b_ext (fun i hi => ?_)
  rw [b_ushr k hk, bt_nI hi, Nat.testBit_shiftRight]
  by_cases h : k + i < 32
  · exact bt_nI h
  · rw [b_big (by omega)]
    exact (Nat.testBit_lt_two_pow (Nat.lt_of_lt_of_le ha (Nat.pow_le_pow_right (by decide) (by omega)))).symm
theorem nI_sub {a b : Nat} (h : b ≤ a) : nI a - nI b = nI (a - b) := by
  have : nI a = nI (a - b) + nI b := by rw [nI_add, Nat.sub_add_cancel h]
  rw [this, Int32.add_sub_cancel]
theorem and_split (k x y : Nat) : x &&& y = (x % 2 ^ k &&& y % 2 ^ k) + 2 ^ k * (x / 2 ^ k &&& y / 2 ^ k) := by
  have h1 : (x &&& y) % 2 ^ k = (x % 2 ^ k &&& y % 2 ^ k) := Nat.and_mod_two_pow
  have h2 : (x &&& y) / 2 ^ k = (x / 2 ^ k &&& y / 2 ^ k) := Nat.and_div_two_pow
  rw [← h1, ← h2]
  exact (Nat.mod_add_div (x &&& y) (2 ^ k)).symm
theorem and3 {x a b c m : Nat} (p q : Nat) (hx : x = a + 256 * b + 65536 * c) (ha : a < 256) (hb : b < 256) (hm : m = p + 256 * p + 65536 * q) (hp : p < 256) : x &&& m = (a &&& p) + 256 * (b &&& p) + 65536 * (c &&& q) := by
  rw [and_split 8 x m, and_split 8 (x / 2 ^ 8) (m / 2 ^ 8)]
  have e1 : x % 2 ^ 8 = a := by omega
  have e2 : x / 2 ^ 8 % 2 ^ 8 = b := by omega
  have e3 : x / 2 ^ 8 / 2 ^ 8 = c := by omega
  have f1 : m % 2 ^ 8 = p := by omega
  have f2 : m / 2 ^ 8 % 2 ^ 8 = p := by omega
  have f3 : m / 2 ^ 8 / 2 ^ 8 = q := by omega
  rw [e1, e2, e3, f1, f2, f3]
  omega
def q1 (a : Nat) : Nat := a - (a / 2 &&& 85)
def q2 (a : Nat) : Nat := (a &&& 51) + (a / 4 &&& 51)
def pop8 (a : Nat) : Nat := a % 2 + a / 2 % 2 + a / 4 % 2 + a / 8 % 2 + a / 16 % 2 + a / 32 % 2 + a / 64 % 2 + a / 128 % 2
set_option maxRecDepth 100000 in
theorem q_byte : ∀ a, a < 256 → (a / 2 &&& 85) ≤ a ∧ q1 a < 256 ∧ q2 (q1 a) % 16 ≤ 4 ∧ q2 (q1 a) / 16 ≤ 4 ∧ (q2 (q1 a) + q2 (q1 a) / 16) % 16 = pop8 a ∧ pop8 a ≤ 8 := by decide +kernel
set_option maxRecDepth 100000 in
theorem q_m1 : ∀ a, a < 256 → ∀ e, e < 2 → (a / 2 + 128 * e &&& 85) = (a / 2 &&& 85) := by decide +kernel
set_option maxRecDepth 100000 in
theorem q_m2 : ∀ a, a < 256 → ∀ e, e < 4 → (a / 4 + 64 * e &&& 51) = (a / 4 &&& 51) := by decide +kernel
theorem q_top : ∀ c, c < 16 → (c / 2 &&& 21845) = (c / 2 &&& 85) ∧ ∀ x, x < 16 → (x &&& 13107) = (x &&& 51) ∧ (x / 4 &&& 13107) = (x / 4 &&& 51) := by decide +kernel
theorem q1_small : ∀ c, c < 16 → q1 c < 16 := by decide +kernel
theorem q3_top : ∀ c, c < 16 → (q2 (q1 c) + q2 (q1 c) / 16 &&& 3855) = pop8 c := by decide +kernel
theorem bitCount_parts {a b c : Nat} (ha : a < 256) (hb : b < 256) (hc : c < 16) (h : AH) : fJ6_bitCount_0f7a4 (nI (a + 256 * b + 65536 * c)) h = nI (pop8 a + pop8 b + pop8 c) := by
  generalize hs : a + 256 * b + 65536 * c = s
  have hs20 : s < 1048576 := by omega
  obtain ⟨a1, a2, a3, a4, a5, a6⟩ := q_byte a ha
  obtain ⟨b1, b2, b3, b4, b5, b6⟩ := q_byte b hb
  obtain ⟨c1, c2, c3, c4, c5, c6⟩ := q_byte c (by omega)
  have cq := q1_small c hc
  -- v1
  have m1 : (s >>> 1) &&& 1431655765 = (a / 2 &&& 85) + 256 * (b / 2 &&& 85) + 65536 * (c / 2 &&& 85) := by
    have e : s >>> 1 = (a / 2 + 128 * (b % 2)) + 256 * (b / 2 + 128 * (c % 2)) + 65536 * (c / 2) := by
      rw [Nat.shiftRight_eq_div_pow]
      omega
    rw [and3 85 21845 e (by omega) (by omega) (by decide) (by decide), q_m1 a ha _ (by omega), q_m1 b hb _ (by omega), (q_top c hc).1]
  have v1 : s - ((s >>> 1) &&& 1431655765) = q1 a + 256 * q1 b + 65536 * q1 c := by
    rw [m1]
    unfold q1
    omega
  have le1 : ((s >>> 1) &&& 1431655765) ≤ s := by rw [m1]; omega
  generalize hv1 : s - ((s >>> 1) &&& 1431655765) = s1 at v1
  have k1 : s1 < 1048576 := by omega
  -- v2
  have m2 : s1 &&& 858993459 = (q1 a &&& 51) + 256 * (q1 b &&& 51) + 65536 * (q1 c &&& 51) := by
    rw [and3 51 13107 v1 a2 b2 (by decide) (by decide), ((q_top c hc).2 (q1 c) cq).1]
  have m2' : (s1 >>> 2) &&& 858993459 = (q1 a / 4 &&& 51) + 256 * (q1 b / 4 &&& 51) + 65536 * (q1 c / 4 &&& 51) := by
    have e : s1 >>> 2 = (q1 a / 4 + 64 * (q1 b % 4)) + 256 * (q1 b / 4 + 64 * (q1 c % 4)) + 65536 * (q1 c / 4) := by
      rw [Nat.shiftRight_eq_div_pow]
      omega
    rw [and3 51 13107 e (by omega) (by omega) (by decide) (by decide), q_m2 (q1 a) a2 _ (by omega), q_m2 (q1 b) b2 _ (by omega), ((q_top c hc).2 (q1 c) cq).2]
  have v2 : (s1 &&& 858993459) + ((s1 >>> 2) &&& 858993459) = q2 (q1 a) + 256 * q2 (q1 b) + 65536 * q2 (q1 c) := by
    rw [m2, m2']
    unfold q2
    omega
  generalize hv2 : (s1 &&& 858993459) + ((s1 >>> 2) &&& 858993459) = s2 at v2
  have k2 : s2 < 8388608 := by omega
  -- v3
  have v3 : (s2 + (s2 >>> 4)) &&& 252645135 = pop8 a + 256 * pop8 b + 65536 * pop8 c := by
    have e : s2 + (s2 >>> 4) = (q2 (q1 a) + q2 (q1 a) / 16 + 16 * (q2 (q1 b) % 16)) + 256 * (q2 (q1 b) + q2 (q1 b) / 16 + 16 * (q2 (q1 c) % 16)) + 65536 * (q2 (q1 c) + q2 (q1 c) / 16) := by
      rw [Nat.shiftRight_eq_div_pow]
      omega
    rw [and3 15 3855 e (by omega) (by omega) (by decide) (by decide), q3_top c hc]
    have f : ∀ x : Nat, x &&& 15 = x % 16 := fun x => Nat.and_two_pow_sub_one_eq_mod x 4
    rw [f, f]
    omega
  generalize hv3 : (s2 + (s2 >>> 4)) &&& 252645135 = s3 at v3
  have e4 : s3 + (s3 >>> 8) = (pop8 a + pop8 b) + 256 * (pop8 b + pop8 c) + 65536 * pop8 c := by
    rw [Nat.shiftRight_eq_div_pow]
    omega
  generalize hv4 : s3 + (s3 >>> 8) = s4 at e4
  have e5 : s4 + (s4 >>> 16) = (pop8 a + pop8 b + pop8 c) + 256 * (pop8 b + pop8 c) + 65536 * pop8 c := by
    rw [Nat.shiftRight_eq_div_pow]
    omega
  generalize hv5 : s4 + (s4 >>> 16) = s5 at e5
  have e6 : s5 &&& 63 = pop8 a + pop8 b + pop8 c := by
    rw [Nat.and_two_pow_sub_one_eq_mod s5 6]
    omega
  unfold fJ6_bitCount_0f7a4
  show letT (nI s - (jushr (nI s) (nI 1) &&& nI 1431655765)) (fun v1 => letT ((v1 &&& nI 858993459) + (jushr v1 (nI 2) &&& nI 858993459)) (fun v2 => letT ((v2 + jushr v2 (nI 4)) &&& nI 252645135) (fun v3 => letT (v3 + jushr v3 (nI 8)) (fun v4 => letT (v4 + jushr v4 (nI 16)) (fun v5 => v5 &&& nI 63))))) = _
  dsimp only [letT]
  rw [jushr_nI (by omega) (by decide), fa_and, nI_sub le1, hv1, jushr_nI (by omega) (by decide), fa_and, fa_and, nI_add, hv2, jushr_nI (by omega) (by decide), nI_add, fa_and, hv3, jushr_nI (by omega) (by decide), nI_add, hv4, jushr_nI (by omega) (by decide), nI_add, hv5, fa_and, e6]
theorem pop8_bits (a : Nat) : pop8 a = (a.testBit 0).toNat + (a.testBit 1).toNat + (a.testBit 2).toNat + (a.testBit 3).toNat + (a.testBit 4).toNat + (a.testBit 5).toNat + (a.testBit 6).toNat + (a.testBit 7).toNat := by
  unfold pop8
  simp only [Nat.testBit_eq_decide_div_mod_eq, Nat.pow_zero, Nat.div_one]
  have f : ∀ x : Nat, (decide (x % 2 = 1)).toNat = x % 2 := fun x => by
    rcases Nat.mod_two_eq_zero_or_one x with h | h <;> simp [h]
  rw [f, f, f, f, f, f, f, f]
theorem iteb (b : Bool) : (if b = true then 1 else 0) = b.toNat := by cases b <;> rfl
theorem ct_succ (p : Nat → Bool) (n : Nat) : ct p (n + 1) = ct p n + (p n).toNat := by
  show ct p n + (if p n then 1 else 0) = _
  cases p n <;> rfl
theorem ct_more {p : Nat → Bool} {n : Nat} (h : ∀ i, n ≤ i → p i = false) : ∀ k, ct p (n + k) = ct p n := by
  intro k
  induction k with
  | zero => rfl
  | succ k ih =>
    show ct p ((n + k) + 1) = _
    rw [ct_succ, ih, h (n + k) (by omega)]
    rfl
theorem bitCount_eq {s : Nat} (hs : s < 2 ^ 20) (h : AH) : fJ6_bitCount_0f7a4 (nI s) h = nI (ct s.testBit 20) := by
  have e : s = s % 256 + 256 * (s / 256 % 256) + 65536 * (s / 65536) := by omega
  have h1 := bitCount_parts (a := s % 256) (b := s / 256 % 256) (c := s / 65536) (by omega) (by omega) (by omega) h
  rw [← e] at h1
  rw [h1, pop8_bits, pop8_bits, pop8_bits]
  have t1 : ∀ j, j < 8 → (s % 256).testBit j = s.testBit j := fun j hj => by
    rw [show (256 : Nat) = 2 ^ 8 by decide, Nat.testBit_mod_two_pow]
    simp [hj]
  have t2 : ∀ j, j < 8 → (s / 256 % 256).testBit j = s.testBit (8 + j) := fun j hj => by
    rw [show (s / 256 % 256) = (s / 2 ^ 8) % 2 ^ 8 by rfl, Nat.testBit_mod_two_pow, Nat.testBit_div_two_pow]
    simp [hj, Nat.add_comm]
  have t3 : ∀ j, (s / 65536).testBit j = s.testBit (16 + j) := fun j => by
    rw [show (s / 65536) = s / 2 ^ 16 by rfl, Nat.testBit_div_two_pow, Nat.add_comm]
  rw [t1 0 (by decide), t1 1 (by decide), t1 2 (by decide), t1 3 (by decide), t1 4 (by decide), t1 5 (by decide), t1 6 (by decide), t1 7 (by decide), t2 0 (by decide), t2 1 (by decide), t2 2 (by decide), t2 3 (by decide), t2 4 (by decide), t2 5 (by decide), t2 6 (by decide), t2 7 (by decide), t3 0, t3 1, t3 2, t3 3, t3 4, t3 5, t3 6, t3 7]
  have z : ∀ j, 20 ≤ j → s.testBit j = false := fun j hj => Nat.testBit_lt_two_pow (Nat.lt_of_lt_of_le hs (Nat.pow_le_pow_right (by decide) hj))
  rw [z (16 + 4) (by decide), z (16 + 5) (by decide), z (16 + 6) (by decide), z (16 + 7) (by decide)]
  congr 1
  simp only [ct, iteb, Nat.reduceAdd, Bool.toNat_false, Nat.add_zero, Nat.zero_add]
  omega
theorem ct_cong {p q : Nat → Bool} : ∀ {n : Nat}, (∀ i, i < n → p i = q i) → ct p n = ct q n := by
  intro n
  induction n with
  | zero => intro _; rfl
  | succ n ih =>
    intro h
    rw [ct_succ, ct_succ, ih (fun i hi => h i (by omega)), h n (by omega)]
theorem ct_le (p : Nat → Bool) : ∀ n, ct p n ≤ n := by
  intro n
  induction n with
  | zero => exact Nat.le_refl _
  | succ n ih => rw [ct_succ]; cases p n <;> simp <;> omega
theorem bitCount_bs {p : Nat → Bool} {n : Nat} (hn : n ≤ 20) (h : AH) : fJ6_bitCount_0f7a4 (nI (bs p n)) h = nI (ct p n) := by
  have h1 : bs p n < 2 ^ 20 := Nat.lt_of_lt_of_le (bs_lt p n) (Nat.pow_le_pow_right (by decide) hn)
  rw [bitCount_eq h1]
  have h2 : ct (bs p n).testBit 20 = ct (bs p n).testBit n := by
    have := ct_more (p := (bs p n).testBit) (n := n) (fun i hi => by rw [bs_bit]; simp; intro h; omega) (20 - n)
    rwa [Nat.add_sub_cancel' hn] at this
  rw [h2, ct_cong (q := p) (fun i hi => by rw [bs_bit]; simp [hi])]
