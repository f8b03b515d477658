/-! ===== a school's reckoning, as both sides do it ===== -/
/-- what the rule of line i makes of a row -/
def mk (m : Int32) (A K F S : Rw) (r : Rw) (i : Nat) : Int32 :=
  if K i = 0 then A (F i).toNatClampNeg
  else if K i = 1 then r (F i).toNatClampNeg
  else if K i = 2 then jrem (m - r (F i).toNatClampNeg) m
  else if K i = 3 then jrem (r (F i).toNatClampNeg + r (S i).toNatClampNeg) m
  else jrem (r (F i).toNatClampNeg * r (S i).toNatClampNeg) m
/-- a line's words are of a kind -/
def Lw (K F S : Rw) (i : Nat) : Prop :=
  (K i = 0 ∧ (∃ f, f < 10 ∧ F i = nI f) ∧ S i = -2) ∨ ((K i = 1 ∨ K i = 2) ∧ (∃ f, f < i ∧ F i = nI f) ∧ S i = -2) ∨ ((K i = 3 ∨ K i = 4) ∧ (∃ f, f < i ∧ F i = nI f) ∧ ∃ g, g < i ∧ S i = nI g)
def Wr (N M : Nat) (m : Int32) (A K F S : Rw) : Prop :=
  N ≤ 20 ∧ m = nI M ∧ 2 ≤ M ∧ M ≤ 97 ∧ (∀ a, a < 10 → ∃ v, v < M ∧ A a = nI v) ∧ ∀ i, i < N → Lw K F S i
/-- claims -/
def Cl (N M : Nat) (C : Rw) : Prop := ∀ i, i < N → ∃ v, v < M ∧ C i = nI v
def eqOn (n : Nat) (f g : Rw) : Prop := ∀ i, i < n → f i = g i
theorem eqOn.rf {n : Nat} {f : Rw} : eqOn n f f := fun _ _ => rfl
theorem eqOn.sy {n : Nat} {f g : Rw} (h : eqOn n f g) : eqOn n g f := fun i hi => (h i hi).symm
theorem eqOn.tr {n : Nat} {f g k : Rw} (h : eqOn n f g) (h2 : eqOn n g k) : eqOn n f k := fun i hi => (h i hi).trans (h2 i hi)
theorem eqOn.le {n k : Nat} {f g : Rw} (h : eqOn n f g) (hk : k ≤ n) : eqOn k f g := fun i hi => h i (by omega)
theorem d10 : ((1 : Int32) = 0) = False := eq_false (by decide)
theorem d20 : ((2 : Int32) = 0) = False := eq_false (by decide)
theorem d21 : ((2 : Int32) = 1) = False := eq_false (by decide)
theorem d30 : ((3 : Int32) = 0) = False := eq_false (by decide)
theorem d31 : ((3 : Int32) = 1) = False := eq_false (by decide)
theorem d32 : ((3 : Int32) = 2) = False := eq_false (by decide)
theorem d40 : ((4 : Int32) = 0) = False := eq_false (by decide)
theorem d41 : ((4 : Int32) = 1) = False := eq_false (by decide)
theorem d42 : ((4 : Int32) = 2) = False := eq_false (by decide)
theorem d43 : ((4 : Int32) = 3) = False := eq_false (by decide)
/-- a rule reads only lines ahead -/
theorem mk_row {m : Int32} {A K F S r r' : Rw} {i : Nat} (hw : Lw K F S i) (h : eqOn i r r') : mk m A K F S r i = mk m A K F S r' i := by
  unfold mk
  rcases hw with ⟨h0, -, -⟩ | ⟨h0, ⟨f, hf, ef⟩, -⟩ | ⟨h0, ⟨f, hf, ef⟩, g, hg, eg⟩
  · rw [if_pos h0, if_pos h0]
  · have hr : r (F i).toNatClampNeg = r' (F i).toNatClampNeg := by
      by_cases hb : f < 2 ^ 31
      · rw [ef, nI_clamp hb]; exact h f hf
      · rw [ef]
        have : (nI f).toNatClampNeg < i ∨ True := Or.inr trivial
        exact h _ (by
          have hle : (nI f).toNatClampNeg ≤ f := by
            have hlt : (nI f).toNatClampNeg < 2 ^ 31 := by
              have := Int32.toInt_lt (nI f)
              have e : (nI f).toNatClampNeg = (nI f).toInt.toNat := rfl
              omega
            omega
          omega)
    rcases h0 with h0 | h0 <;> simp only [h0, hr, d10, d20, d21, d30, d31, d32, d40, d41, d42, d43, if_false, if_true]
  · have cl : ∀ f, f < i → (nI f).toNatClampNeg < i := fun f hf => by
      by_cases hb : f < 2 ^ 31
      · rw [nI_clamp hb]; exact hf
      · have hlt : (nI f).toNatClampNeg < 2 ^ 31 := by
          have := Int32.toInt_lt (nI f)
          have e : (nI f).toNatClampNeg = (nI f).toInt.toNat := rfl
          omega
        omega
    have hr : r (F i).toNatClampNeg = r' (F i).toNatClampNeg := by rw [ef]; exact h _ (cl f hf)
    have hs : r (S i).toNatClampNeg = r' (S i).toNatClampNeg := by rw [eg]; exact h _ (cl g hg)
    rcases h0 with h0 | h0 <;> simp only [h0, hr, hs, d10, d20, d21, d30, d31, d32, d40, d41, d42, d43, if_false, if_true]
/-- the same words, the same rule -/
theorem mk_wds {m : Int32} {A A' K K' F F' S S' r : Rw} {i : Nat} (hA : eqOn 10 A A') (hK : K i = K' i) (hF : F i = F' i) (hS : S i = S' i) (hw : Lw K F S i) : mk m A K F S r i = mk m A' K' F' S' r i := by
  unfold mk
  rw [← hK, ← hF, ← hS]
  rcases hw with ⟨h0, ⟨f, hf, ef⟩, -⟩ | ⟨h0, -, -⟩ | ⟨h0, -, -⟩
  · rw [if_pos h0, if_pos h0, ef, nI_clamp (by omega)]
    exact hA f hf
  · have h1 : ¬ K i = 0 := by rcases h0 with h0 | h0 <;> (rw [h0]; decide)
    rw [if_neg h1, if_neg h1]
  · have h1 : ¬ K i = 0 := by rcases h0 with h0 | h0 <;> (rw [h0]; decide)
    rw [if_neg h1, if_neg h1]
/-- lines k, k+1 .. worked on -/
def wk (M : Rw → Nat → Int32) (k n : Nat) (r : Rw) : Rw := itf (fun k r => upd r k (M r k)) k n r
theorem wk_0 (M : Rw → Nat → Int32) (k : Nat) (r : Rw) : wk M k 0 r = r := rfl
theorem wk_last (M : Rw → Nat → Int32) (k n : Nat) (r : Rw) : wk M k (n + 1) r = upd (wk M k n r) (k + n) (M (wk M k n r) (k + n)) := itf_last _ n k r
theorem wk_out {M : Rw → Nat → Int32} {k : Nat} {r : Rw} : ∀ {n j : Nat}, j < k ∨ k + n ≤ j → wk M k n r j = r j := by
  intro n
  induction n with
  | zero => intro j _; rfl
  | succ n ih =>
    intro j h
    rw [wk_last, upd_ne _ _ (by omega)]
    exact ih (by omega)
/-- what a line is behind the working on: its rule, of the row as it is then -/
theorem wk_in {M : Rw → Nat → Int32} {k : Nat} {r : Rw} (hM : ∀ i r r', eqOn i r r' → M r i = M r' i) : ∀ {n j : Nat}, k ≤ j → j < k + n → wk M k n r j = M (wk M k n r) j := by
  intro n
  induction n with
  | zero => intro j h1 h2; omega
  | succ n ih =>
    intro j h1 h2
    rw [wk_last]
    by_cases hj : j = k + n
    · rw [hj, upd_at]
      exact hM _ _ _ (fun i hi => (upd_ne _ _ (by omega)).symm)
    · rw [upd_ne _ _ hj, ih h1 (by omega)]
      exact hM _ _ _ (fun i hi => (upd_ne _ _ (by omega)).symm)
/-- the lines' own conditions are needed below N only -/
theorem wk_in' {M : Rw → Nat → Int32} {k N : Nat} {r : Rw} (hM : ∀ i, i < N → ∀ r r', eqOn i r r' → M r i = M r' i) : ∀ {n j : Nat}, k ≤ j → j < k + n → k + n ≤ N → wk M k n r j = M (wk M k n r) j := by
  intro n
  induction n with
  | zero => intro j h1 h2; omega
  | succ n ih =>
    intro j h1 h2 h3
    rw [wk_last]
    by_cases hj : j = k + n
    · rw [hj, upd_at]
      exact hM _ (by omega) _ _ (fun i hi => (upd_ne _ _ (by omega)).symm)
    · rw [upd_ne _ _ hj, ih h1 (by omega) (by omega)]
      exact hM _ (by omega) _ _ (fun i hi => (upd_ne _ _ (by omega)).symm)
/-- a row that keeps what is ahead and is by its rules from k on is the one -/
theorem wk_uniq {M M' : Rw → Nat → Int32} {k N : Nat} {r r' : Rw} (hM : ∀ i, i < N → ∀ r r', eqOn i r r' → M r i = M' r' i) (hr : eqOn k r r') (h : ∀ j, k ≤ j → j < N → r j = M r j) (h' : ∀ j, k ≤ j → j < N → r' j = M' r' j) : eqOn N r r' := by
  intro i
  induction i using Nat.strongRecOn with
  | ind i ih =>
    intro hi
    by_cases hk : i < k
    · exact hr i hk
    · rw [h i (by omega) hi, h' i (by omega) hi]
      exact hM i hi _ _ (fun j hj => ih j hj (by omega))
theorem wk_cong {M M' : Rw → Nat → Int32} {k N : Nat} {r r' : Rw} (hM : ∀ i, i < N → ∀ r r', eqOn i r r' → M r i = M' r' i) (hr : eqOn k r r') : ∀ {n : Nat}, k + n ≤ N → eqOn (k + n) (wk M k n r) (wk M' k n r') := by
  intro n
  induction n with
  | zero => intro _; exact hr
  | succ n ih =>
    intro h i hi
    rw [wk_last, wk_last]
    by_cases e : i = k + n
    · rw [e, upd_at, upd_at]
      exact hM _ (by omega) _ _ (ih (by omega))
    · rw [upd_ne _ _ e, upd_ne _ _ e]
      exact ih (by omega) i (by omega)
/-- the rule of the class's school -/
abbrev mX (h : AH) : Rw → Nat → Int32 := mk (h.1 3 0) (h.1 4) (h.1 8) (h.1 9) (h.1 10)
/-- the rule of the model's -/
abbrev mM (h : AH) : Rw → Nat → Int32 := mk (h.1 75 0) (h.1 76) (h.1 78) (h.1 79) (h.1 80)
def WX (N M : Nat) (h : AH) : Prop := h.1 6 0 = nI N ∧ Wr N M (h.1 3 0) (h.1 4) (h.1 8) (h.1 9) (h.1 10)
def WM (N M : Nat) (h : AH) : Prop := h.1 75 2 = nI N ∧ Wr N M (h.1 75 0) (h.1 76) (h.1 78) (h.1 79) (h.1 80)
theorem nI_m {M : Nat} (h1 : 2 ≤ M) (h2 : M ≤ 97) : 0 < nI M ∧ ¬ nI M = 0 := ⟨nI_lt (a := 0) (by omega) (by omega), nI_ne0 (by omega) (by omega)⟩
theorem made_eq {N M i a : Nat} {h : AH} (w : WX N M h) (hi : i < N) (ha : 20 ≤ aln a) : fX9_made (nI i) a h = mX h (h.1 a) i := by
  obtain ⟨-, hN, hm, m1, m2, hA, hl⟩ := w
  have hmp := nI_m m1 m2
  unfold fX9_made
  rw [at_in (show i < aln 8 from by show i < 20; omega), at_in (show i < aln 9 from by show i < 20; omega), at_in (show i < aln 10 from by show i < 20; omega)]
  unfold fX9_madeOf mX mk fX9_modulo
  rw [hm]
  rcases hl i hi with ⟨h0, ⟨f, hf, ef⟩, -⟩ | ⟨h0, ⟨f, hf, ef⟩, -⟩ | ⟨h0, ⟨f, hf, ef⟩, g, hg, eg⟩
  · simp only [h0, ef, at_in (show f < aln 4 from hf), nI_clamp (show f < 2 ^ 31 by omega), if_true]
  · have hc : (nI f).toNatClampNeg = f := nI_clamp (by omega)
    have hat := at_in (h := h) (show f < aln a by omega)
    rcases h0 with h0 | h0 <;> simp only [h0, ef, hc, hat, hmp.1, d10, d20, d21, d30, d31, d32, d40, d41, d42, d43, if_false, if_true]
  · have hc : (nI f).toNatClampNeg = f := nI_clamp (by omega)
    have hd : (nI g).toNatClampNeg = g := nI_clamp (by omega)
    have hat := at_in (h := h) (show f < aln a by omega)
    have hag := at_in (h := h) (show g < aln a by omega)
    rcases h0 with h0 | h0 <;> simp only [h0, ef, eg, hc, hd, hat, hag, hmp.1, d10, d20, d21, d30, d31, d32, d40, d41, d42, d43, if_false, if_true]
theorem gd {i n : Nat} (hi : i < n) (hn : n ≤ 4000) : ¬ (nI i < 0 ∨ n ≤ (nI i).toNatClampNeg) := nI_in hi (by omega)
theorem gdn {i n : Nat} (hi : i < n) (hn : n ≤ 4000) : ¬ (nI i < 0 ∨ n ≤ i) := by
  rintro (h | h)
  · exact nI_pos (by omega) h
  · omega
theorem makes_eq {N M i a : Nat} {h : AH} (w : WM N M h) (hi : i < N) (ha : 20 ≤ aln a) : fX12_makes (nI i) a h = some (mM h (h.1 a) i) := by
  obtain ⟨-, hN, hm, m1, m2, hA, hl⟩ := w
  have hmp := nI_m m1 m2
  have hs := aln_small a
  have gi := gdn (show i < 20 by omega) (by omega)
  have ci : (nI i).toNatClampNeg = i := nI_clamp (by omega)
  unfold fX12_makes mM mk
  rcases hl i hi with ⟨h0, ⟨f, hf, ef⟩, -⟩ | ⟨h0, ⟨f, hf, ef⟩, -⟩ | ⟨h0, ⟨f, hf, ef⟩, g, hg, eg⟩
  · have hc : (nI f).toNatClampNeg = f := nI_clamp (by omega)
    simp only [gi, ci, hm, h0, ef, hc, gdn hf (by omega), if_true, if_false]
  · have hc : (nI f).toNatClampNeg = f := nI_clamp (by omega)
    have gf := gdn (show f < aln a by omega) (by omega)
    rcases h0 with h0 | h0 <;> simp only [gi, ci, hm, h0, ef, hc, gf, hmp.2, d10, d20, d21, d30, d31, d32, d40, d41, d42, d43, if_false, if_true]
  · have hc : (nI f).toNatClampNeg = f := nI_clamp (by omega)
    have hd : (nI g).toNatClampNeg = g := nI_clamp (by omega)
    have gf := gdn (show f < aln a by omega) (by omega)
    have gg := gdn (show g < aln a by omega) (by omega)
    rcases h0 with h0 | h0 <;> simp only [gi, ci, hm, h0, ef, eg, hc, hd, gf, gg, hmp.2, d10, d20, d21, d30, d31, d32, d40, d41, d42, d43, if_false, if_true]
