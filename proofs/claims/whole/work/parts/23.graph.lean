/-! ===== what has what, depths, users, what stands on what ===== -/
abbrev hbX (h : AH) : Nat → Nat → Bool := hasb (h.1 8) (h.1 9) (h.1 10)
abbrev hbM (h : AH) : Nat → Nat → Bool := hasb (h.1 78) (h.1 79) (h.1 80)
theorem ScN.hb {N M x : Nat} {h : AH} (H : ScN N M x h) {j : Nat} (hj : j < N) (i : Nat) : hbX h j i = hbM h j i := by
  obtain ⟨-, -, -, -, -, -, -, -, hK, hF, hS, -⟩ := H
  exact (hasb_eq (hK j hj).symm (hF j hj).symm (hS j hj).symm).symm
theorem m2_ne {i : Nat} (hi : i < 2 ^ 31) : ¬ (-2 : Int32) = nI i := fun q => nI_pos hi (by rw [← q]; decide)
theorem hasX_eq {N M i j : Nat} {h : AH} (w : WX N M h) (hj : j < N) (hi : i < 1000) : fX6_has (nI j) (nI i) h = if hbX h j i then 1 else 0 := by
  have hN := w.N
  unfold fX6_has
  dsimp only [letT]
  rw [at_in (show j < aln 8 by show j < 20; omega), at_in (show j < aln 9 by show j < 20; omega), at_in (show j < aln 10 by show j < 20; omega)]
  unfold hbX hasb
  have hm := m2_ne (i := i) (by omega)
  rcases w.2.2.2.2.2.2 j hj with ⟨h0, -, es⟩ | ⟨h0, -, es⟩ | ⟨h0, -, -⟩
  · rw [h0, es]
    simp [hm]
  · rcases h0 with h0 | h0
    · rw [h0, es]
      by_cases e : h.1 9 j = nI i <;> simp [e, hm] <;> decide
    · rw [h0, es]
      by_cases e : h.1 9 j = nI i <;> simp [e, hm] <;> decide
  · rcases h0 with h0 | h0
    · rw [h0]
      by_cases e : h.1 9 j = nI i <;> by_cases e2 : h.1 10 j = nI i <;> simp [e, e2] <;> decide
    · rw [h0]
      by_cases e : h.1 9 j = nI i <;> by_cases e2 : h.1 10 j = nI i <;> simp [e, e2] <;> decide
theorem hasIt_eq {i j : Nat} {h : AH} (hj : j < 20) : fX12_hasIt (nI j) (nI i) h = some (if hbM h j i then 1 else 0) := by
  unfold fX12_hasIt hbM hasb
  have g := gd hj (by decide)
  simp only [g, if_false]
  rw [nI_clamp (by omega)]
  by_cases e0 : h.1 78 j = 0 <;> by_cases e1 : h.1 79 j = nI i <;> by_cases e2 : h.1 80 j = nI i <;> simp [e0, e1, e2]
theorem usedBy_eq {N M i : Nat} {h : AH} (w : WM N M h) : fX12_usedBy (nI i) h = some (nI (ct (fun j => hbM h j i) N)) := by
  have hN := w.N
  have key := for_up0 (F := fun m x s => fX12_usedBy_l4 (nI i) h m (nI s) x) (fun k s => s + (hbM h k i).toNat) (fun s => some (nI s)) N (by omega) (fun m k s hk => by
      show fX12_usedBy_l4b (fX12_usedBy_l4 (nI i) h m) (nI i) h (nI s) (nI k) = _
      unfold fX12_usedBy_l4b
      rw [w.1, if_pos (nI_lt hk (by omega)), hasIt_eq (by omega), ob, nI_1]
      cases hb : hbM h k i with
      | false =>
        rw [if_pos (by rfl)]
        show fX12_usedBy_l4 (nI i) h m (nI s + 0) _ = _
        rw [Int32.add_zero]
        rfl
      | true =>
        rw [if_neg (by decide)]
        show fX12_usedBy_l4 (nI i) h m (nI s + 1) _ = _
        rw [nI_1]
        rfl) (fun m s => by
      show fX12_usedBy_l4b (fX12_usedBy_l4 (nI i) h m) (nI i) h (nI s) (nI N) = _
      unfold fX12_usedBy_l4b
      rw [w.1, if_neg (nI_nlt (Nat.le_refl _) (by omega))]) fuel0 0 0 (by omega) (by have := fuel_big; omega)
  have e : ∀ n, itf (fun k s => s + (hbM h k i).toNat) 0 n 0 = ct (fun j => hbM h j i) n := by
    intro n
    induction n with
    | zero => rfl
    | succ n ih => rw [itf_last, ih, Nat.zero_add, ct_succ]
  rw [Nat.sub_zero, e] at key
  exact key
theorem ScN.us {N M x : Nat} {h : AH} (H : ScN N M x h) {i : Nat} (hi : i < N) : h.1 12 i = nI (ct (fun j => hbM h j i) N) := by
  rw [(H.2.2.2.2.2.2.2.2.2.2.2.2.2.1 i hi).2.2.1]
  congr 1
  exact ct_cong (fun j hj => H.hb hj i)
theorem max1 {a b : Nat} (ha : a < 1000) (hb : b < 1000) {h : AH} : 1 + fX12_max (nI a) (nI b) h = jmax (nI a + 1) (nI b + 1) := by
  unfold fX12_max jmax
  rw [nI_1, nI_1]
  by_cases c : b < a
  · rw [if_pos (nI_lt c (by omega)), if_neg (nI_nlt (by omega) (by omega)), Int32.add_comm, nI_1]
  · rw [if_neg (nI_nlt (by omega) (by omega))]
    by_cases d : a < b
    · rw [if_pos (nI_lt (by omega) (by omega)), Int32.add_comm, nI_1]
    · have : a = b := by omega
      subst this
      rw [if_neg (nI_nlt (by omega) (by omega)), Int32.add_comm, nI_1]
theorem max10 {a : Nat} (ha : a < 1000) {h : AH} : 1 + fX12_max (nI a) 0 h = nI a + 1 := by
  unfold fX12_max
  by_cases c : 0 < a
  · rw [if_pos (show (0 : Int32) < nI a from nI_lt (a := 0) c (by omega)), Int32.add_comm]
  · have : a = 0 := by omega
    subst this
    rw [if_neg (by decide)]
    rfl
/-- depths by the model: any row of depths that is by its rules -/
theorem depthOf_eq {N M i : Nat} {h : AH} {D : Rw} (w : WM N M h) (hi : i < N) (hD : ∀ j, j < N → D j = dpf (h.1 78) (h.1 79) (h.1 80) D j ∧ ∃ d, d ≤ j ∧ D j = nI d) : ∃ r, fX12_depthOf (nI i) h = some (D i, sR h 90 r) := by
  have hN := w.N
  let K : AH → Option (Int32 × AH) := fun g => if nI i < 0 ∨ 20 ≤ (nI i).toNatClampNeg then none else some (g.1 90 (nI i).toNatClampNeg, g)
  have key := for_up (F := fun m x r => fX12_depthOf_l2 K (nI i) m x (sR h 90 r)) (fun k r => upd r k (D k)) (fun r => K (sR h 90 r)) (i + 1) (by omega) (fun k r => eqOn k r D) (fun m k r hk hI => by
      refine ⟨?_, fun j hj => ?_⟩
      · show fX12_depthOf_l2b (fX12_depthOf_l2 K (nI i) m) K (nI i) (nI k) (sR h 90 r) = _
        unfold fX12_depthOf_l2b
        dsimp only [letT]
        have g := gd (show k < 20 by omega) (by decide)
        rw [if_neg (nI_nlt (by omega) (by omega)), if_neg g, if_neg g, if_neg g, if_neg g, if_neg g, if_neg g, if_neg g, nI_clamp (by omega), nI_1, sR_at, sR_ne _ _ (by decide), sR_ne _ _ (by decide), sR_ne _ _ (by decide), sI_R, sI_R, sI_R]
        have hd := (hD k (by omega)).1
        unfold dpf at hd
        rcases w.2.2.2.2.2.2 k (by omega) with ⟨h0, -, -⟩ | ⟨h0, ⟨f, hf, ef⟩, es⟩ | ⟨h0, ⟨f, hf, ef⟩, q, hq, eq⟩
        · rw [if_pos h0] at hd ⊢
          rw [hd]
        · have hn0 : ¬ h.1 78 k = 0 := by rcases h0 with h0 | h0 <;> (rw [h0]; decide)
          rw [if_neg hn0] at hd ⊢
          rw [ef, if_neg (gd (show f < 20 by omega) (by decide)), es, if_pos (by decide), nI_clamp (by omega), hI f hf]
          rw [es, if_pos (by decide), ef, nI_clamp (by omega)] at hd
          obtain ⟨d, hd1, hd2⟩ := (hD f (by omega)).2
          rw [hd, hd2, max10 (by omega)]
        · have hn0 : ¬ h.1 78 k = 0 := by rcases h0 with h0 | h0 <;> (rw [h0]; decide)
          rw [if_neg hn0] at hd ⊢
          rw [ef, if_neg (gd (show f < 20 by omega) (by decide)), eq, if_neg (nI_pos (by omega)), if_neg (gd (show q < 20 by omega) (by decide)), nI_clamp (by omega), nI_clamp (by omega), hI f hf, hI q hq]
          rw [eq, if_neg (nI_pos (by omega)), ef, nI_clamp (by omega), nI_clamp (by omega)] at hd
          obtain ⟨d, hd1, hd2⟩ := (hD f (by omega)).2
          obtain ⟨d', hd3, hd4⟩ := (hD q (by omega)).2
          rw [hd, hd2, hd4, max1 (by omega) (by omega)]
      · show upd r k (D k) j = D j
        by_cases e : j = k
        · rw [e, upd_at]
        · rw [upd_ne _ _ e]; exact hI j (by omega)) (fun m r _ => by
      show fX12_depthOf_l2b (fX12_depthOf_l2 K (nI i) m) K (nI i) (nI (i + 1)) (sR h 90 r) = _
      unfold fX12_depthOf_l2b
      rw [if_pos (nI_lt (by omega) (by omega))]) fuel0 0 (h.1 90) (by omega) (by have := fuel_big; omega) (fun j hj => absurd hj (Nat.not_lt_zero j))
  rw [Nat.sub_zero, sR_self] at key
  refine ⟨itf (fun k r => upd r k (D k)) 0 (i + 1) (h.1 90), key.1.trans ?_⟩
  show (if nI i < 0 ∨ 20 ≤ (nI i).toNatClampNeg then none else some ((sR h 90 (itf (fun k r => upd r k (D k)) 0 (i + 1) (h.1 90))).1 90 (nI i).toNatClampNeg, sR h 90 (itf (fun k r => upd r k (D k)) 0 (i + 1) (h.1 90)))) = _
  rw [if_neg (gd (show i < 20 by omega) (by decide)), nI_clamp (by omega), sR_at, key.2 i (by omega)]
theorem ScN.dp {N M x : Nat} {h : AH} (H : ScN N M x h) : ∀ j, j < N → h.1 11 j = dpf (h.1 78) (h.1 79) (h.1 80) (h.1 11) j ∧ ∃ d, d ≤ j ∧ h.1 11 j = nI d := by
  intro j hj
  have hd := H.2.2.2.2.2.2.2.2.2.2.2.2.2.1 j hj
  obtain ⟨-, -, -, -, -, -, -, -, hK, hF, hS, -⟩ := H
  refine ⟨?_, hd.2.1⟩
  rw [hd.1]
  unfold dpf
  rw [hK j hj, hF j hj, hS j hj]

/-- any place below n -/
def anyb (p : Nat → Bool) : Nat → Bool
  | 0 => false
  | n + 1 => anyb p n || p n
theorem anyb_iff {p : Nat → Bool} : ∀ {n : Nat}, anyb p n = true ↔ ∃ k, k < n ∧ p k = true := by
  intro n
  induction n with
  | zero => simp [anyb]
  | succ n ih =>
    show (anyb p n || p n) = true ↔ _
    rw [Bool.or_eq_true, ih]
    constructor
    · rintro (⟨k, h1, h2⟩ | h)
      · exact ⟨k, by omega, h2⟩
      · exact ⟨n, by omega, h⟩
    · rintro ⟨k, h1, h2⟩
      by_cases e : k = n
      · exact Or.inr (e ▸ h2)
      · exact Or.inl ⟨k, by omega, h2⟩
theorem anyb_cong {p q : Nat → Bool} : ∀ {n : Nat}, (∀ k, k < n → p k = q k) → anyb p n = anyb q n := by
  intro n
  induction n with
  | zero => intro _; rfl
  | succ n ih =>
    intro h
    show (anyb p n || p n) = (anyb q n || q n)
    rw [ih (fun k hk => h k (by omega)), h n (by omega)]
/-- lines below n that stand on i, where those of ax are axioms -/
def stn (hb : Nat → Nat → Bool) (i : Nat) (ax : Nat → Bool) : Nat → Nat
  | 0 => 0
  | j + 1 => if (decide (i < j) && !ax j && anyb (fun k => hb j k && (decide (k = i) || (stn hb i ax j).testBit k)) j) then stn hb i ax j ||| 2 ^ j else stn hb i ax j
theorem stn_succ (hb : Nat → Nat → Bool) (i : Nat) (ax : Nat → Bool) (j : Nat) : stn hb i ax (j + 1) = if (decide (i < j) && !ax j && anyb (fun k => hb j k && (decide (k = i) || (stn hb i ax j).testBit k)) j) then stn hb i ax j ||| 2 ^ j else stn hb i ax j := rfl
theorem stn_lt {hb : Nat → Nat → Bool} {i : Nat} {ax : Nat → Bool} : ∀ n, stn hb i ax n < 2 ^ n := by
  intro n
  induction n with
  | zero => exact Nat.zero_lt_one
  | succ n ih =>
    unfold stn
    have h2 : 2 ^ n < 2 ^ (n + 1) := Nat.pow_lt_pow_right (by decide) (by omega)
    split
    · exact Nat.or_lt_two_pow (by omega) h2
    · omega
theorem stn_bit {hb : Nat → Nat → Bool} {i : Nat} {ax : Nat → Bool} : ∀ {n j : Nat}, j < n → (stn hb i ax n).testBit j = (decide (i < j) && !ax j && anyb (fun k => hb j k && (decide (k = i) || (stn hb i ax n).testBit k)) j) := by
  have keep : ∀ {n j : Nat}, j < n → ∀ k, (stn hb i ax (n + k)).testBit j = (stn hb i ax n).testBit j := by
    intro n j hj k
    induction k with
    | zero => rfl
    | succ k ih =>
      rw [← ih, Nat.add_succ]
      show (if _ then stn hb i ax (n + k) ||| 2 ^ (n + k) else stn hb i ax (n + k)).testBit j = _
      split
      · rw [Nat.testBit_or, Nat.testBit_two_pow]
        simp
        intro q
        omega
      · rfl
  intro n j hj
  obtain ⟨k, rfl⟩ : ∃ k, n = j + 1 + k := ⟨n - (j + 1), by omega⟩
  rw [keep (by omega) k]
  have e : ∀ q, q < j → (stn hb i ax (j + 1 + k)).testBit q = (stn hb i ax j).testBit q := fun q hq => by
    rw [show j + 1 + k = j + (1 + k) by omega]
    exact keep hq (1 + k)
  have e2 : anyb (fun k_1 => hb j k_1 && (decide (k_1 = i) || (stn hb i ax (j + 1 + k)).testBit k_1)) j = anyb (fun k_1 => hb j k_1 && (decide (k_1 = i) || (stn hb i ax j).testBit k_1)) j := anyb_cong (fun q hq => by rw [e q hq])
  rw [e2]
  have hz : (stn hb i ax j).testBit j = false := Nat.testBit_lt_two_pow (stn_lt j)
  show (if _ then stn hb i ax j ||| 2 ^ j else stn hb i ax j).testBit j = _
  split
  · next c => rw [c, Nat.testBit_or, Nat.testBit_two_pow]; simp
  · next c =>
    rw [hz]
    exact (Bool.eq_false_iff.mpr c).symm
theorem stn_cong {hb hb' : Nat → Nat → Bool} {i : Nat} {ax ax' : Nat → Bool} : ∀ {n : Nat}, (∀ j, j < n → (∀ k, hb j k = hb' j k) ∧ ax j = ax' j) → stn hb i ax n = stn hb' i ax' n := by
  intro n
  induction n with
  | zero => intro _; rfl
  | succ n ih =>
    intro h
    have h1 := ih (fun j hj => h j (by omega))
    have h2 := h n (by omega)
    unfold stn
    rw [h1, h2.2, anyb_cong (q := fun k => hb' n k && (decide (k = i) || (stn hb' i ax' n).testBit k)) (fun k _ => by rw [h2.1 k])]

theorem stn_le {hb : Nat → Nat → Bool} {i : Nat} {ax : Nat → Bool} : ∀ {n : Nat}, n ≤ i + 1 → stn hb i ax n = 0 := by
  intro n
  induction n with
  | zero => intro _; rfl
  | succ n ih =>
    intro h
    unfold stn
    rw [if_neg (by have : ¬ i < n := by omega
                   simp [this]), ih (by omega)]
theorem standOn_in {i j s : Nat} {x2 : Int32} {h : AH} (hj : j < 20) (hi : i < 20) (hs : s < 2 ^ j) (K : Int32 → Option Int32) : fX12_standOn_l31 K (nI i) x2 (nI j) h fuel0 (nI s) 0 = K (nI (if anyb (fun k => hbM h j k && (decide (k = i) || s.testBit k)) j then s ||| 2 ^ j else s)) := by
  have key := for_up (F := fun m x t => fX12_standOn_l31 K (nI i) x2 (nI j) h m (nI t) x) (fun k t => if hbM h j k && (decide (k = i) || t.testBit k) then t ||| 2 ^ j else t) (fun t => K (nI t)) j (by omega) (fun k t => t = if anyb (fun k => hbM h j k && (decide (k = i) || s.testBit k)) k then s ||| 2 ^ j else s) (fun m k t hk hI => by
      have tb : t.testBit k = s.testBit k := by
        rw [hI]
        split
        · rw [Nat.testBit_or, Nat.testBit_two_pow]
          simp
          intro q
          omega
        · rfl
      refine ⟨?_, ?_⟩
      · show fX12_standOn_l31b (fX12_standOn_l31 K (nI i) x2 (nI j) h m) K (nI i) x2 (nI j) h (nI t) (nI k) = _
        unfold fX12_standOn_l31b
        rw [if_pos (nI_lt hk (by omega)), hasIt_eq hj, ob, nI_1, has_bt _ (by omega), bt_nI (by omega), or_bit (by omega)]
        dsimp only [letT]
        cases h1 : hbM h j k with
        | false => simp
        | true =>
          by_cases e : k = i
          · have : nI k = nI i := by rw [e]
            simp [e]
          · have e2 : ¬ nI k = nI i := fun q => e ((nI_eq (by omega) (by omega)).mp q)
            cases h2 : t.testBit k <;> simp [e, e2]
      · show (if hbM h j k && (decide (k = i) || t.testBit k) then t ||| 2 ^ j else t) = _
        rw [tb]
        show _ = if (anyb (fun k => hbM h j k && (decide (k = i) || s.testBit k)) k || (hbM h j k && (decide (k = i) || s.testBit k))) then s ||| 2 ^ j else s
        cases h1 : anyb (fun k => hbM h j k && (decide (k = i) || s.testBit k)) k with
        | false => rw [hI, h1, Bool.false_or]; rfl
        | true =>
          rw [hI, h1, Bool.true_or, if_pos rfl]
          split
          · rw [Nat.or_assoc, Nat.or_self]
          · rfl) (fun m t _ => by
      show fX12_standOn_l31b (fX12_standOn_l31 K (nI i) x2 (nI j) h m) K (nI i) x2 (nI j) h (nI t) (nI j) = _
      unfold fX12_standOn_l31b
      rw [if_neg (nI_nlt (Nat.le_refl _) (by omega))]) fuel0 0 s (by omega) (by have := fuel_big; omega) rfl
  rw [Nat.sub_zero] at key
  rw [← key.2]
  exact key.1
theorem standOn_eq {N M i : Nat} {x2 : Int32} {h : AH} (w : WM N M h) (hi : i < N) : fX12_standOn (nI i) x2 h = some (nI (stn (hbM h) i (fun j => bt x2 j) N)) := by
  have hN := w.N
  unfold fX12_standOn
  dsimp only [letT]
  rw [nI_1]
  have key := for_up (F := fun m x t => fX12_standOn_l7 (nI i) x2 h m (nI t) x) (fun k t => stn (hbM h) i (fun j => bt x2 j) (k + 1)) (fun t => some (nI t)) N (by omega) (fun k t => t = stn (hbM h) i (fun j => bt x2 j) k ∧ i < k) (fun m k t hk hI => by
      obtain ⟨hI, hik⟩ := hI
      refine ⟨?_, rfl, by omega⟩
      show fX12_standOn_l7b (fX12_standOn_l7 (nI i) x2 h m) (nI i) x2 h (nI t) (nI k) = _
      unfold fX12_standOn_l7b
      rw [w.1, if_pos (nI_lt hk (by omega)), has_bt _ (by omega), standOn_in (by omega) (by omega) (by rw [hI]; exact stn_lt k), nI_1, hI]
      cases hb : bt x2 k with
      | true =>
        rw [if_neg (by decide)]
        show _ = fX12_standOn_l7 (nI i) x2 h m (nI (stn (hbM h) i (fun j => bt x2 j) (k + 1))) _
        rw [stn_succ, hb, if_neg (by simp)]
      | false =>
        rw [if_pos (by rfl)]
        show _ = fX12_standOn_l7 (nI i) x2 h m (nI (stn (hbM h) i (fun j => bt x2 j) (k + 1))) _
        rw [stn_succ, hb]
        simp only [hik, decide_true, Bool.not_false, Bool.true_and]) (fun m t _ => by
      show fX12_standOn_l7b (fX12_standOn_l7 (nI i) x2 h m) (nI i) x2 h (nI t) (nI N) = _
      unfold fX12_standOn_l7b
      rw [w.1, if_neg (nI_nlt (Nat.le_refl _) (by omega))]) fuel0 (i + 1) 0 (by omega) (by have := fuel_big; omega) ⟨(stn_le (Nat.le_refl _)).symm, by omega⟩
  rw [← key.2.1]
  exact key.1

/-- the class: who stands on i, by the rows of needs -/
theorem standingOn_eq {N M i : Nat} {h : AH} (w : WX N M h) (hi : i < N) : fX6_standingOn (nI i) h = some (nI (bs (fun j => decide (i < j) && bt (h.1 13 j) i) N)) := by
  have hN := w.N
  unfold fX6_standingOn
  dsimp only [letT]
  rw [nI_1]
  have key := for_up (F := fun m x t => fX6_standingOn_l6 (nI i) h m (nI t) x) (fun k t => if decide (i < k) && bt (h.1 13 k) i then t ||| 2 ^ k else t) (fun t => some (nI t)) N (by omega) (fun k t => i < k ∧ t = bs (fun j => decide (i < j) && bt (h.1 13 j) i) k) (fun m k t hk hI => by
      refine ⟨?_, by omega, ?_⟩
      · show fX6_standingOn_l6b (fX6_standingOn_l6 (nI i) h m) (nI i) h (nI t) (nI k) = _
        unfold fX6_standingOn_l6b
        rw [w.1, if_pos (nI_lt hk (by omega)), at_in (show k < aln 13 by show k < 20; omega), isIn_bt _ (by omega), nI_1, show fX11_bit (nI k) h = jshl 1 (nI k) from rfl, or_bit (by omega)]
        dsimp only [letT]
        cases hb : bt (h.1 13 k) i <;> simp [hI.1]
      · show (if decide (i < k) && bt (h.1 13 k) i then t ||| 2 ^ k else t) = bs (fun j => decide (i < j) && bt (h.1 13 j) i) k + (if decide (i < k) && bt (h.1 13 k) i then 2 ^ k else 0)
        rw [hI.2]
        split
        · rw [bs_or]
        · rfl) (fun m t _ => by
      show fX6_standingOn_l6b (fX6_standingOn_l6 (nI i) h m) (nI i) h (nI t) (nI N) = _
      unfold fX6_standingOn_l6b
      rw [w.1, if_neg (nI_nlt (Nat.le_refl _) (by omega))]) fuel0 (i + 1) 0 (by omega) (by have := fuel_big; omega) ⟨by omega, by
        symm
        rw [bs_zero]
        intro j hj
        have : ¬ i < j := by omega
        simp [this]⟩
  rw [← key.2.2]
  exact key.1
theorem bt_or_nI {x : Int32} {f i : Nat} (hf : f < 31) (hi : i < 32) : bt (x ||| jshl 1 (nI f)) i = (bt x i || decide (f = i)) := by
  rw [b_or, bit_nI hf, bt_nI hi, Nat.testBit_two_pow]
/-- the rows of needs say the same -/
theorem needs_bit {N M x i : Nat} {h : AH} (H : ScN N M x h) : ∀ {j : Nat}, j < N → i < N → bt (h.1 13 j) i = (stn (hbX h) i (fun _ => false) N).testBit j := by
  intro j
  have hN := H.N
  induction j using Nat.strongRecOn with
  | ind j ih =>
    intro hj hi
    obtain ⟨-, -, -, hd, s, hs, es⟩ := H.2.2.2.2.2.2.2.2.2.2.2.2.2.1 j hj
    rw [stn_bit hj]
    by_cases hij : i < j
    · have e2 : anyb (fun k => hbX h j k && (decide (k = i) || (stn (hbX h) i (fun _ => false) N).testBit k)) j = anyb (fun k => hbX h j k && (decide (k = i) || bt (h.1 13 k) i)) j := anyb_cong (fun k hk => by rw [ih k hk (by omega) hi])
      rw [e2]
      simp only [hij, decide_true, Bool.true_and, Bool.not_false]
      rw [hd]
      unfold ndf
      rcases H.WX.2.2.2.2.2.2 j hj with ⟨h0, -, es2⟩ | ⟨h0, ⟨f, hf, ef⟩, es2⟩ | ⟨h0, ⟨f, hf, ef⟩, g, hg, eg⟩
      · rw [if_pos h0, b_0]
        symm
        rw [Bool.eq_false_iff]
        intro c
        obtain ⟨k, hk, c⟩ := anyb_iff.mp c
        have hm := m2_ne (i := k) (by omega)
        have : hbX h j k = false := by
          show hasb (h.1 8) (h.1 9) (h.1 10) j k = false
          unfold hasb
          rw [h0, es2]
          simp [hm]
        rw [this] at c
        cases c
      · have hn0 : ¬ h.1 8 j = 0 := by rcases h0 with h0 | h0 <;> (rw [h0]; decide)
        have hbk : ∀ k, k < j → hbX h j k = decide (k = f) := fun k hk => by
          have hm := m2_ne (i := k) (by omega)
          show hasb (h.1 8) (h.1 9) (h.1 10) j k = _
          unfold hasb
          rw [es2, ef]
          by_cases e : k = f
          · subst e; simp [hn0]
          · have : ¬ nI f = nI k := fun q => e ((nI_eq (by omega) (by omega)).mp q).symm
            simp [hm, this, e]
        rw [if_neg hn0, es2, if_pos (by decide), ef, nI_clamp (by omega), bt_or_nI (by omega) (by omega), Bool.eq_iff_iff, anyb_iff]
        constructor
        · intro c
          refine ⟨f, hf, ?_⟩
          rw [hbk f hf]
          simp only [decide_true, Bool.true_and]
          rw [Bool.or_comm]
          exact c
        · rintro ⟨k, hk, c⟩
          rw [hbk k hk] at c
          simp only [Bool.and_eq_true, decide_eq_true_eq] at c
          rw [c.1] at c
          rw [Bool.or_comm]
          exact c.2
      · have hn0 : ¬ h.1 8 j = 0 := by rcases h0 with h0 | h0 <;> (rw [h0]; decide)
        have hbk : ∀ k, k < j → hbX h j k = (decide (k = f) || decide (k = g)) := fun k hk => by
          show hasb (h.1 8) (h.1 9) (h.1 10) j k = _
          unfold hasb
          rw [eg, ef]
          have e1 : (nI f = nI k) ↔ k = f := ⟨fun q => ((nI_eq (by omega) (by omega)).mp q).symm, fun q => by rw [q]⟩
          have e2 : (nI g = nI k) ↔ k = g := ⟨fun q => ((nI_eq (by omega) (by omega)).mp q).symm, fun q => by rw [q]⟩
          simp [hn0, e1, e2]
        rw [if_neg hn0, eg, if_neg (nI_pos (by omega)), ef, nI_clamp (by omega), nI_clamp (by omega), b_or, bt_or_nI (by omega) (by omega), bt_or_nI (by omega) (by omega), Bool.eq_iff_iff, anyb_iff]
        constructor
        · intro c
          rw [Bool.or_eq_true] at c
          rcases c with c | c
          · refine ⟨f, hf, ?_⟩
            rw [hbk f hf]
            simp only [decide_true, Bool.true_or, Bool.true_and]
            rw [Bool.or_comm]
            exact c
          · refine ⟨g, hg, ?_⟩
            rw [hbk g hg]
            simp only [decide_true, Bool.or_true, Bool.true_and]
            rw [Bool.or_comm]
            exact c
        · rintro ⟨k, hk, c⟩
          rw [hbk k hk] at c
          simp only [Bool.and_eq_true, Bool.or_eq_true, decide_eq_true_eq] at c
          rw [Bool.or_eq_true]
          rcases c.1 with e | e
          · rw [e] at c
            refine Or.inl ?_
            rw [Bool.or_eq_true, decide_eq_true_eq]
            exact c.2.symm
          · rw [e] at c
            refine Or.inr ?_
            rw [Bool.or_eq_true, decide_eq_true_eq]
            exact c.2.symm
    · simp only [hij, decide_false, Bool.false_and]
      rw [es, bt_nI (by omega)]
      exact Nat.testBit_lt_two_pow (Nat.lt_of_lt_of_le hs (Nat.pow_le_pow_right (by decide) (by omega)))
