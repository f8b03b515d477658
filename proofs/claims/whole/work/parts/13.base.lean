/-! ===== PHASE 2: numbers, rows, loops ===== -/
abbrev Rw : Type := Nat → Int32
theorem lit_nI (k : Nat) : (OfNat.ofNat k : Int32) = nI k := rfl
theorem ofNat_nI (k : Nat) : Int32.ofNat k = nI k := rfl
theorem toI0 : (0 : Int32).toInt = 0 := rfl
/-- a row in the place of another -/
def sR (h : AH) (a : Nat) (f : Rw) : AH := (fun c => if c = a then f else h.1 c, h.2)
theorem sR_at (h : AH) (a : Nat) (f : Rw) : (sR h a f).1 a = f := if_pos rfl
theorem sR_ne (h : AH) {a c : Nat} (f : Rw) (hc : c ≠ a) : (sR h a f).1 c = h.1 c := if_neg hc
theorem sR_2 (h : AH) (a : Nat) (f : Rw) : (sR h a f).2 = h.2 := rfl
theorem sI_sR (h : AH) (a j : Nat) (v : Int32) : sI h a j v = sR h a (upd (h.1 a) j v) := rfl
theorem sR_sR (h : AH) (a : Nat) (f g : Rw) : sR (sR h a f) a g = sR h a g := by
  unfold sR
  congr 1
  funext c
  by_cases hc : c = a
  · rw [if_pos hc, if_pos hc]
  · rw [if_neg hc, if_neg hc]
    exact if_neg hc
theorem sR_self (h : AH) (a : Nat) : sR h a (h.1 a) = h := by
  unfold sR
  congr 1
  funext c
  by_cases hc : c = a
  · rw [if_pos hc, hc]
  · rw [if_neg hc]
theorem upd_at (f : Rw) (i : Nat) (x : Int32) : upd f i x i = x := if_pos rfl
theorem upd_ne (f : Rw) {i j : Nat} (x : Int32) (h : j ≠ i) : upd f i x j = f j := if_neg h
theorem upd_upd (f : Rw) (i : Nat) (x y : Int32) : upd (upd f i x) i y = upd f i y := by
  funext j
  by_cases h : j = i
  · subst h; rw [upd_at, upd_at]
  · rw [upd_ne _ _ h, upd_ne _ _ h, upd_ne _ _ h]
theorem at_in {a i : Nat} {h : AH} (hi : i < aln a) : fX11_at a (nI i) h = h.1 a i := by
  have hs := aln_small a
  unfold fX11_at
  rw [if_neg (nI_pos (by omega)), if_pos (show nI i < Int32.ofNat (aln a) from nI_lt hi (by omega)), nI_clamp (by omega)]
theorem put_in {a i : Nat} {v : Int32} {h : AH} (hi : i < aln a) : fX11_put a (nI i) v h = sI h a i v := by
  have hs := aln_small a
  unfold fX11_put
  rw [if_neg (nI_pos (by omega)), if_pos (show nI i < Int32.ofNat (aln a) from nI_lt hi (by omega)), nI_clamp (by omega)]
  rfl
/-- a counted loop's state behind n turns from k on -/
def itf {σ : Type} (st : Nat → σ → σ) : Nat → Nat → σ → σ
  | _, 0, s => s
  | k, n + 1, s => itf st (k + 1) n (st k s)
theorem itf_last {σ : Type} (st : Nat → σ → σ) : ∀ (n k : Nat) (s : σ), itf st k (n + 1) s = st (k + n) (itf st k n s) := by
  intro n
  induction n with
  | zero => intro k s; rfl
  | succ n ih =>
    intro k s
    show itf st (k + 1) (n + 1) (st k s) = _
    rw [ih (k + 1) (st k s)]
    show st (k + 1 + n) _ = st (k + (n + 1)) _
    rw [Nat.add_right_comm k 1 n, Nat.add_assoc]
    rfl
/-- THE COUNTED LOOP: F walks k, k+1 .. N with a state; I is what holds of it -/
theorem for_up {σ R : Type} {F : Nat → Int32 → σ → R} (st : Nat → σ → σ) (E : σ → R) (N : Nat) (hN : N < 2 ^ 31) (I : Nat → σ → Prop)
    (hs : ∀ n k s, k < N → I k s → F (n + 1) (nI k) s = F n (nI (k + 1)) (st k s) ∧ I (k + 1) (st k s)) (he : ∀ n s, I N s → F (n + 1) (nI N) s = E s) :
    ∀ (n k : Nat) (s : σ), k ≤ N → N - k < n → I k s → F n (nI k) s = E (itf st k (N - k) s) ∧ I N (itf st k (N - k) s) := by
  intro n
  induction n with
  | zero => intro k s _ h; exact absurd h (Nat.not_lt_zero _)
  | succ n ih =>
    intro k s hk hn hI
    by_cases hkN : k = N
    · subst hkN
      rw [Nat.sub_self]
      exact ⟨he n s hI, hI⟩
    · have hlt : k < N := by omega
      obtain ⟨h1, h2⟩ := hs n k s hlt hI
      obtain ⟨h3, h4⟩ := ih (k + 1) (st k s) (by omega) (by omega) h2
      have e : N - k = (N - (k + 1)) + 1 := by omega
      rw [h1, h3, e]
      exact ⟨rfl, by rw [e] at *; exact h4⟩
/-- the same with nothing to hold -/
theorem for_up0 {σ R : Type} {F : Nat → Int32 → σ → R} (st : Nat → σ → σ) (E : σ → R) (N : Nat) (hN : N < 2 ^ 31)
    (hs : ∀ n k s, k < N → F (n + 1) (nI k) s = F n (nI (k + 1)) (st k s)) (he : ∀ n s, F (n + 1) (nI N) s = E s) (n k : Nat) (s : σ) (hk : k ≤ N) (hn : N - k < n) : F n (nI k) s = E (itf st k (N - k) s) :=
  (for_up st E N hN (fun _ _ => True) (fun n k s h _ => ⟨hs n k s h, trivial⟩) (fun n s _ => he n s) n k s hk hn trivial).1
theorem ob {α β : Type} (a : α) (f : α → Option β) : (some a).bind f = f a := rfl
/-- the first place from k on, below k + n, where p holds -/
def fst (p : Nat → Bool) : Nat → Nat → Option Nat
  | _, 0 => none
  | k, n + 1 => if p k then some k else fst p (k + 1) n
/-- THE SEARCH: F walks from k on; where p holds it answers, else it goes on -/
theorem for_fst {R : Type} {F : Nat → Int32 → R} (p : Nat → Bool) (hit : Nat → R) (E : R) (N : Nat) (hN : N < 2 ^ 31)
    (hs : ∀ n k, k < N → F (n + 1) (nI k) = if p k then hit k else F n (nI (k + 1))) (he : ∀ n, F (n + 1) (nI N) = E) :
    ∀ (n k : Nat), k ≤ N → N - k < n → F n (nI k) = (match fst p k (N - k) with | some j => hit j | none => E) := by
  intro n
  induction n with
  | zero => intro k _ h; exact absurd h (Nat.not_lt_zero _)
  | succ n ih =>
    intro k hk hn
    by_cases hkN : k = N
    · subst hkN
      rw [Nat.sub_self, he]
      rfl
    · have e : N - k = (N - (k + 1)) + 1 := by omega
      rw [hs n k (by omega), e]
      unfold fst
      cases hp : p k with
      | true => rw [if_pos rfl, if_pos rfl]
      | false =>
        rw [if_neg (by decide), if_neg (by decide)]
        exact ih (k + 1) (by omega) (by omega)
theorem fst_some {p : Nat → Bool} : ∀ {n k j : Nat}, fst p k n = some j → k ≤ j ∧ j < k + n ∧ p j = true ∧ ∀ i, k ≤ i → i < j → p i = false := by
  intro n
  induction n with
  | zero => intro k j h; cases h
  | succ n ih =>
    intro k j h
    unfold fst at h
    cases hp : p k with
    | true =>
      rw [hp, if_pos rfl] at h
      cases h
      exact ⟨Nat.le_refl _, by omega, hp, fun i h1 h2 => by omega⟩
    | false =>
      rw [hp, if_neg (by decide)] at h
      obtain ⟨h1, h2, h3, h4⟩ := ih h
      refine ⟨by omega, by omega, h3, fun i g1 g2 => ?_⟩
      by_cases hi : i = k
      · rw [hi]; exact hp
      · exact h4 i (by omega) g2
theorem fst_none {p : Nat → Bool} : ∀ {n k : Nat}, fst p k n = none → ∀ i, k ≤ i → i < k + n → p i = false := by
  intro n
  induction n with
  | zero => intro k h i h1 h2; omega
  | succ n ih =>
    intro k h i h1 h2
    unfold fst at h
    cases hp : p k with
    | true => rw [hp, if_pos rfl] at h; cases h
    | false =>
      rw [hp, if_neg (by decide)] at h
      by_cases hi : i = k
      · rw [hi]; exact hp
      · exact ih h i (by omega) (by omega)
theorem fst_cong {p q : Nat → Bool} : ∀ {n k : Nat}, (∀ i, k ≤ i → i < k + n → p i = q i) → fst p k n = fst q k n := by
  intro n
  induction n with
  | zero => intro k _; rfl
  | succ n ih =>
    intro k h
    unfold fst
    rw [h k (Nat.le_refl _) (by omega), ih (fun i h1 h2 => h i (by omega) (by omega))]
