/-! ===== bits of longs ===== -/
def bL (x : Int64) (i : Nat) : Bool := x.toBitVec.getLsbD i
theorem l_ext {x y : Int64} (h : ∀ i, i < 64 → bL x i = bL y i) : x = y := Int64.toBitVec_inj.mp (BitVec.eq_of_getLsbD_eq (fun i hi => h i hi))
theorem l_or (x y : Int64) (i : Nat) : bL (x ||| y) i = (bL x i || bL y i) := by unfold bL; rw [Int64.toBitVec_or, BitVec.getLsbD_or]
theorem l_and (x y : Int64) (i : Nat) : bL (x &&& y) i = (bL x i && bL y i) := by unfold bL; rw [Int64.toBitVec_and, BitVec.getLsbD_and]
theorem l_xor (x y : Int64) (i : Nat) : bL (x ^^^ y) i = (bL x i ^^ bL y i) := by unfold bL; rw [Int64.toBitVec_xor, BitVec.getLsbD_xor]
theorem l_m1 : ∀ i, i < 64 → bL (-1) i = true := by decide +kernel
theorem l_0 (i : Nat) : bL 0 i = false := BitVec.getLsbD_zero
theorem l_1 : ∀ i, i < 64 → bL 1 i = decide (i = 0) := by decide +kernel
theorem l_big {x : Int64} {i : Nat} (h : 64 ≤ i) : bL x i = false := BitVec.getLsbD_of_ge _ _ h
theorem s_L : ∀ n, n < 64 → (((nI n).toInt64 &&& 63).toBitVec.smod 64).toNat = n := by decide +kernel
theorem l_shl {n i : Nat} (hn : n < 64) (hi : i < 64) : bL (jshlL 1 (nI n)) i = decide (n = i) := by
  unfold jshlL bL
  rw [Int64.toBitVec_shiftLeft]
  show (Int64.toBitVec 1 <<< (((nI n).toInt64 &&& 63).toBitVec.smod 64).toNat).getLsbD i = _
  rw [s_L n hn, BitVec.getLsbD_shiftLeft]
  have h1 := l_1 (i - n) (by omega)
  unfold bL at h1
  by_cases a : i < n
  · have : ¬ n = i := by omega
    simp [a, this]
  · rw [h1]
    by_cases e : n = i
    · subst e; simp [hi]
    · have : ¬ i - n = 0 := by omega
      simp [e, this]
theorem l_shr {x : Int64} {n i : Nat} (hn : n < 64) (hi : i < 64) : bL (jshrL x (nI n)) i = if n + i < 64 then bL x (n + i) else bL x 63 := by
  unfold jshrL bL
  rw [Int64.toBitVec_shiftRight]
  show (x.toBitVec.sshiftRight (((nI n).toInt64 &&& 63).toBitVec.smod 64).toNat).getLsbD i = _
  rw [s_L n hn, BitVec.getLsbD_sshiftRight]
  by_cases a : n + i < 64
  · simp [a, hi]
  · simp only [a, if_false]
    simp [hi, BitVec.msb_eq_getLsbD_last]
theorem l_ask (x : Int64) {i : Nat} (hi : i < 64) : (lg_cmp ((jshrL x (nI i)) &&& 1) 0 = 0 ↔ bL x i = false) := by
  have key : ∀ j, j < 64 → bL (jshrL x (nI i) &&& 1) j = (decide (j = 0) && bL x i) := by
    intro j hj
    rw [l_and, l_1 j hj]
    by_cases h0 : j = 0
    · subst h0
      rw [l_shr hi hj]
      simp [hi]
    · simp [h0]
  cases hb : bL x i with
  | false =>
    have e : jshrL x (nI i) &&& 1 = 0 := l_ext (fun j hj => by rw [key j hj, hb, l_0]; simp)
    rw [e]
    exact ⟨fun _ => rfl, fun _ => by decide⟩
  | true =>
    have e : jshrL x (nI i) &&& 1 = 1 := l_ext (fun j hj => by rw [key j hj, hb, l_1 j hj]; simp)
    rw [e]
    exact ⟨fun h => absurd h (by decide), fun h => by cases h⟩
theorem lg_zero {x : Int64} : lg_cmp x 0 = 0 ↔ x = 0 := by
  unfold lg_cmp
  constructor
  · intro h
    by_cases a : x > 0
    · rw [if_pos a] at h; exact absurd h (by decide)
    · rw [if_neg a] at h
      by_cases b : x = 0
      · exact b
      · rw [if_neg b] at h; exact absurd h (by decide)
  · intro h
    rw [h]
    decide
theorem l_40 {i : Nat} (hi : i < 64) : bL 1099511627776 i = decide (40 = i) := l_shl (n := 40) (by decide) hi
