/-! ===== a law's text: what it says ===== -/
abbrev Cd : Type := List (Nat × Nat)
abbrev Pr : Type := Nat → Nat → Cd → Rs (Cd × Nat)
def mulI (c : Int32) : Option Nat := if c = 42 then some 2 else if c = 47 then some 3 else if c = 37 then some 4 else none
def addI (c : Int32) : Option Nat := if c = 43 then some 0 else if c = 45 then some 1 else none
def cmpI (c : Int32) : Option Nat := if c = 60 then some 5 else if c = 62 then some 6 else if c = 61 then some 7 else none
def fct (c : Int32) : Option Nat := if c < 0 then none else (bytS.getD 5 []).findIdx? (fun b => b == c)
/-- a number of up to five digits; a sixth is a fault -/
def pN5 (B : Nat → Int32) : Nat → Nat → Nat → Rs (Nat × Nat)
  | 0, p, v => match dg (B p) with
    | none => .inr (v, p)
    | some _ => .inl (2000 + p)
  | k + 1, p, v => match dg (B p) with
    | none => .inr (v, p)
    | some d => pN5 B k (p + 1) (10 * v + d)
def pFac (B : Nat → Int32) (ps : Pr) : Pr := fun o p A =>
  if B p = nI 91 then (if o < 6 then (match ps (o + 1) (p + 1) A with | .inl f => .inl f | .inr (A', q) => if B q = nI 93 then .inr (A', q + 1) else .inl (1000 + q)) else .inl (5000 + p))
  else match dg (B p) with
    | some _ => (match pN5 B 5 p 0 with | .inl f => .inl f | .inr (v, q) => .inr (A ++ [(0, v)], q))
    | none => (match fct (B p) with | none => .inl (1000 + p) | some i => .inr (A ++ [(1, i)], p + 1))
def sOp (S : Option Nat) : Cd := match S with | none => [] | some i => [(5 + i, 0)]
def pELp (B : Nat → Int32) (pf : Pr) (o : Nat) : Nat → Nat → Cd → Option Nat → Rs (Cd × Nat)
  | 0, _, _, _ => .inl 1
  | k + 1, p, A, S => match mulI (B p) with
    | some i => (match pf o (p + 1) A with | .inl f => .inl f | .inr (A', q) => pELp B pf o k q (A' ++ [(5 + i, 0)]) S)
    | none => match addI (B p) with
      | some i => (match pf o (p + 1) (A ++ sOp S) with | .inl f => .inl f | .inr (A', q) => pELp B pf o k q A' (some i))
      | none => .inr (A ++ sOp S, p)
def pSum (B : Nat → Int32) (pf : Pr) : Pr := fun o p A => match pf o p A with
  | .inl f => .inl f
  | .inr (A', q) => pELp B pf o 201 q A' none
def pSumD (B : Nat → Int32) : Nat → Pr
  | 0 => fun _ _ _ => .inl 1
  | d + 1 => pSum B (pFac B (pSumD B d))
def aim (A : Cd) (a : Option Nat) : Cd := match a with | none => A | some i => A.set i ((A.getD i (0, 0)).1, A.length)
def pPiece (B : Nat → Int32) (pp pc : Pr) : Pr := fun o p A =>
  if B p = nI 33 then (if o < 6 then (match pp (o + 1) (p + 1) A with | .inl f => .inl f | .inr (A', q) => .inr (A' ++ [(2, 0)], q)) else .inl (5000 + p))
  else if B p = nI 40 then (if o < 6 then (match pc (o + 1) (p + 1) A with | .inl f => .inl f | .inr (A', q) => if B q = nI 41 then .inr (A', q + 1) else .inl (1000 + q)) else .inl (5000 + p))
  else match pSumD B 8 o p A with
    | .inl f => .inl f
    | .inr (A1, q) => match cmpI (B q) with
      | none => .inl (1000 + q)
      | some i => match pSumD B 8 o (q + 1) A1 with
        | .inl f => .inl f
        | .inr (A2, r) => .inr (A2 ++ [(5 + i, 0)], r)
def pCLp (B : Nat → Int32) (pp : Pr) (o : Nat) : Nat → Nat → Cd → Option Nat → Option Nat → Rs (Cd × Nat)
  | 0, _, _, _, _ => .inl 1
  | k + 1, p, A, r, a =>
    if B p = nI 38 then (match pp o (p + 1) (aim A a ++ [(3, 0)]) with | .inl f => .inl f | .inr (A', q) => pCLp B pp o k q A' r (some (aim A a).length))
    else if B p = nI 124 then (match pp o (p + 1) (aim (aim A a) r ++ [(4, 0)]) with | .inl f => .inl f | .inr (A', q) => pCLp B pp o k q A' (some (aim (aim A a) r).length) none)
    else .inr (aim (aim A a) r, p)
def pChoice (B : Nat → Int32) (pp : Pr) : Pr := fun o p A => match pp o p A with
  | .inl f => .inl f
  | .inr (A', q) => pCLp B pp o 201 q A' none none
def pPieceD (B : Nat → Int32) : Nat → Pr
  | 0 => fun _ _ _ => .inl 1
  | d + 1 => pPiece B (pPieceD B d) (pChoice B (pPieceD B d))
/-! ===== what is laid, and how much ===== -/
/-- behind it more is laid, not more than was read -/
def Gd (n p : Nat) (A : Cd) (q : Nat) (A' : Cd) : Prop := p < q ∧ q ≤ n ∧ A.length < A'.length ∧ A'.length + p ≤ A.length + q ∧ ∀ i, i < A.length → A'[i]? = A[i]?
theorem Gd.tr {n p q r : Nat} {A A' A'' : Cd} (a : Gd n p A q A') (b : Gd n q A' r A'') : Gd n p A r A'' := by
  obtain ⟨a1, a2, a3, a4, a5⟩ := a
  obtain ⟨b1, b2, b3, b4, b5⟩ := b
  exact ⟨by omega, b2, by omega, by omega, fun i hi => (b5 i (by omega)).trans (a5 i hi)⟩
def GdP (n : Nat) (P : Pr) : Prop := ∀ o p A A' q, P o p A = .inr (A', q) → Gd n p A q A'
theorem len1 (A : Cd) (x : Nat × Nat) : (A ++ [x]).length = A.length + 1 := by rw [List.length_append]; rfl
theorem get1 {A : Cd} {x : Nat × Nat} {i : Nat} (h : i < A.length) : (A ++ [x])[i]? = A[i]? := List.getElem?_append_left h
theorem sOp_len (S : Option Nat) : (sOp S).length ≤ 1 := by
  cases S with
  | none => exact Nat.zero_le _
  | some i => exact Nat.le_refl _
section Sizes
variable {B : Nat → Int32} {n : Nat}
theorem pN5_ok (t : Txt B n) : ∀ (k p v : Nat) {w q : Nat}, pN5 B k p v = .inr (w, q) → p ≤ n → p ≤ q ∧ q ≤ n ∧ w < (v + 1) * 10 ^ k := by
  intro k
  induction k with
  | zero =>
    intro p v w q h hp
    unfold pN5 at h
    cases e : dg (B p) with
    | none =>
      rw [e] at h
      injection Sum.inr.inj h with h1 h2
      omega
    | some d => rw [e] at h; cases h
  | succ k ih =>
    intro p v w q h hp
    unfold pN5 at h
    cases e : dg (B p) with
    | none =>
      rw [e] at h
      injection Sum.inr.inj h with h1 h2
      refine ⟨by omega, by omega, ?_⟩
      have : 0 < 10 ^ (k + 1) := Nat.pow_pos (by decide)
      have h3 : (v + 1) * 1 ≤ (v + 1) * 10 ^ (k + 1) := Nat.mul_le_mul_left _ this
      omega
    | some d =>
      rw [e] at h
      have d9 := (dg_some e).1
      obtain ⟨a, b, c⟩ := ih (p + 1) (10 * v + d) h (by have := t.dig e; omega)
      refine ⟨by omega, b, ?_⟩
      have h3 : (10 * v + d + 1) * 10 ^ k ≤ (10 * (v + 1)) * 10 ^ k := Nat.mul_le_mul_right _ (by omega)
      rw [Nat.pow_succ, Nat.mul_comm (10 ^ k) 10, ← Nat.mul_assoc, Nat.mul_comm (v + 1) 10]
      omega
theorem pN5_lt {p d w q : Nat} (t : Txt B n) (hd : dg (B p) = some d) (h : pN5 B 5 p 0 = .inr (w, q)) : p < q ∧ q ≤ n ∧ w < 100000 := by
  have l := t.dig hd
  have h' := h
  unfold pN5 at h
  rw [hd] at h
  obtain ⟨a, b, -⟩ := pN5_ok t 4 (p + 1) (10 * 0 + d) h (by omega)
  obtain ⟨-, -, c⟩ := pN5_ok t 5 p 0 h' (by omega)
  exact ⟨by omega, b, by omega⟩
theorem fct_ok {p i : Nat} (t : Txt B n) (h : fct (B p) = some i) : p < n ∧ i < 8 := by
  unfold fct at h
  by_cases a : B p < 0
  · rw [if_pos a] at h; cases h
  · rw [if_neg a] at h
    refine ⟨t.inn (fun q => a (by rw [q]; decide)), ?_⟩
    have := (List.findIdx?_eq_some_iff_getElem.mp h).1
    exact this
theorem mul_in {p i : Nat} (t : Txt B n) (h : mulI (B p) = some i) : p < n ∧ 2 ≤ i ∧ i ≤ 4 := by
  have hn : ¬ B p = -1 := fun q => by rw [q] at h; exact absurd h (by decide +revert)
  refine ⟨t.inn hn, ?_⟩
  unfold mulI at h
  split at h
  · have := Option.some.inj h; omega
  · split at h
    · have := Option.some.inj h; omega
    · split at h
      · have := Option.some.inj h; omega
      · cases h
theorem add_in {p i : Nat} (t : Txt B n) (h : addI (B p) = some i) : p < n ∧ i ≤ 1 := by
  have hn : ¬ B p = -1 := fun q => by rw [q] at h; exact absurd h (by decide +revert)
  refine ⟨t.inn hn, ?_⟩
  unfold addI at h
  split at h
  · have := Option.some.inj h; omega
  · split at h
    · have := Option.some.inj h; omega
    · cases h
theorem cmp_in {p i : Nat} (t : Txt B n) (h : cmpI (B p) = some i) : p < n ∧ 5 ≤ i ∧ i ≤ 7 := by
  have hn : ¬ B p = -1 := fun q => by rw [q] at h; exact absurd h (by decide +revert)
  refine ⟨t.inn hn, ?_⟩
  unfold cmpI at h
  split at h
  · have := Option.some.inj h; omega
  · split at h
    · have := Option.some.inj h; omega
    · split at h
      · have := Option.some.inj h; omega
      · cases h
theorem pFac_gd {ps : Pr} (t : Txt B n) (g : GdP n ps) : GdP n (pFac B ps) := by
  intro o p A A' q h
  unfold pFac at h
  by_cases c91 : B p = nI 91
  · rw [if_pos c91] at h
    by_cases o6 : o < 6
    · rw [if_pos o6] at h
      cases e : ps (o + 1) (p + 1) A with
      | inl f => rw [e] at h; cases h
      | inr x =>
        rw [e] at h
        dsimp only at h
        obtain ⟨a1, a2, a3, a4, a5⟩ := g _ _ _ _ _ e
        by_cases c93 : B x.2 = nI 93
        · rw [if_pos c93] at h
          have l := t.lit (by decide) c93
          injection Sum.inr.inj h with h1 h2
          subst h1 h2
          exact ⟨by omega, by omega, a3, by omega, a5⟩
        · rw [if_neg c93] at h; cases h
    · rw [if_neg o6] at h; cases h
  · rw [if_neg c91] at h
    cases ed : dg (B p) with
    | some d =>
      rw [ed] at h
      cases e : pN5 B 5 p 0 with
      | inl f => rw [e] at h; cases h
      | inr x =>
        rw [e] at h
        obtain ⟨b1, b2, -⟩ := pN5_lt (w := x.1) (q := x.2) t ed e
        injection Sum.inr.inj h with h1 h2
        subst h1 h2
        exact ⟨b1, b2, by rw [len1]; omega, by rw [len1]; omega, fun i hi => get1 hi⟩
    | none =>
      rw [ed] at h
      cases e : fct (B p) with
      | none => rw [e] at h; cases h
      | some i =>
        rw [e] at h
        have := (fct_ok t e).1
        injection Sum.inr.inj h with h1 h2
        subst h1 h2
        exact ⟨by omega, by omega, by rw [len1]; omega, by rw [len1]; omega, fun i hi => get1 hi⟩
theorem pELp_gd {pf : Pr} {o : Nat} (t : Txt B n) (g : GdP n pf) : ∀ (k p : Nat) (A : Cd) (S : Option Nat) {A' : Cd} {q : Nat}, pELp B pf o k p A S = .inr (A', q) → p ≤ n → p ≤ q ∧ q ≤ n ∧ A.length ≤ A'.length ∧ A'.length + p ≤ A.length + (sOp S).length + q ∧ ∀ i, i < A.length → A'[i]? = A[i]? := by
  intro k
  induction k with
  | zero => intro p A S A' q h; cases h
  | succ k ih =>
    intro p A S A' q h hp
    unfold pELp at h
    cases em : mulI (B p) with
    | some i =>
      rw [em] at h
      cases e : pf o (p + 1) A with
      | inl f => rw [e] at h; cases h
      | inr x =>
        rw [e] at h
        obtain ⟨a1, a2, a3, a4, a5⟩ := g _ _ _ _ _ e
        obtain ⟨b1, b2, b3, b4, b5⟩ := ih _ _ _ h a2
        rw [len1] at b3 b4
        refine ⟨by omega, b2, by omega, by omega, fun i hi => ?_⟩
        rw [b5 i (by rw [len1]; omega), get1 (by omega)]
        exact a5 i hi
    | none =>
      rw [em] at h
      dsimp only at h
      cases ea : addI (B p) with
      | some i =>
        rw [ea] at h
        cases e : pf o (p + 1) (A ++ sOp S) with
        | inl f => rw [e] at h; cases h
        | inr x =>
          rw [e] at h
          obtain ⟨a1, a2, a3, a4, a5⟩ := g _ _ _ _ _ e
          obtain ⟨b1, b2, b3, b4, b5⟩ := ih _ _ _ h a2
          rw [List.length_append] at a3 a4
          have hs : (sOp (some i)).length = 1 := rfl
          refine ⟨by omega, b2, by omega, by omega, fun i hi => ?_⟩
          rw [b5 i (by omega), a5 i (by rw [List.length_append]; omega), List.getElem?_append_left hi]
      | none =>
        rw [ea] at h
        injection Sum.inr.inj h with h1 h2
        subst h1 h2
        rw [List.length_append]
        exact ⟨Nat.le_refl _, hp, by omega, by omega, fun i hi => List.getElem?_append_left hi⟩
theorem pSum_gd {pf : Pr} (t : Txt B n) (g : GdP n pf) : GdP n (pSum B pf) := by
  intro o p A A' q h
  unfold pSum at h
  cases e : pf o p A with
  | inl f => rw [e] at h; cases h
  | inr x =>
    rw [e] at h
    obtain ⟨a1, a2, a3, a4, a5⟩ := g _ _ _ _ _ e
    obtain ⟨b1, b2, b3, b4, b5⟩ := pELp_gd t g _ _ _ _ h a2
    have hs : (sOp none).length = 0 := rfl
    exact ⟨by omega, b2, by omega, by omega, fun i hi => (b5 i (by omega)).trans (a5 i hi)⟩
theorem pSumD_gd (t : Txt B n) : ∀ d, GdP n (pSumD B d) := by
  intro d
  induction d with
  | zero => intro o p A A' q h; cases h
  | succ d ih => exact pSum_gd t (pFac_gd t ih)
theorem aim_len (A : Cd) (a : Option Nat) : (aim A a).length = A.length := by
  cases a with
  | none => rfl
  | some i => exact List.length_set
theorem aim_ne {A : Cd} {a : Option Nat} {i : Nat} (h : a ≠ some i) : (aim A a)[i]? = A[i]? := by
  cases a with
  | none => rfl
  | some j => exact List.getElem?_set_ne (fun e => h (by rw [e]))
theorem aim_at {A : Cd} {i o x : Nat} (h : A[i]? = some (o, x)) : (aim A (some i))[i]? = some (o, A.length) := by
  have hl := (List.getElem?_eq_some_iff.mp h).1
  unfold aim
  rw [List.getElem?_set_self hl, List.getD_eq_getElem?_getD, h]
  rfl
theorem pCLp_gd {pp : Pr} {o b : Nat} (t : Txt B n) (g : GdP n pp) : ∀ (k p : Nat) (A : Cd) (r a : Option Nat) {A' : Cd} {q : Nat}, pCLp B pp o k p A r a = .inr (A', q) → p ≤ n → (∀ i, r = some i → b ≤ i) → (∀ i, a = some i → b ≤ i) → b ≤ A.length → p ≤ q ∧ q ≤ n ∧ A.length ≤ A'.length ∧ A'.length + p ≤ A.length + q ∧ ∀ i, i < b → A'[i]? = A[i]? := by
  intro k
  induction k with
  | zero => intro p A r a A' q h; cases h
  | succ k ih =>
    intro p A r a A' q h hp hr ha hb
    have lo1 : ∀ i, i < b → (aim A a)[i]? = A[i]? := fun i hi => aim_ne (fun e => by have := ha i e; omega)
    have lo2 : ∀ i, i < b → (aim (aim A a) r)[i]? = A[i]? := fun i hi => by rw [aim_ne (fun e => by have := hr i e; omega)]; exact lo1 i hi
    unfold pCLp at h
    by_cases c1 : B p = nI 38
    · rw [if_pos c1] at h
      cases e : pp o (p + 1) (aim A a ++ [(3, 0)]) with
      | inl f => rw [e] at h; cases h
      | inr x =>
        rw [e] at h
        obtain ⟨a1, a2, a3, a4, a5⟩ := g _ _ _ _ _ e
        rw [len1, aim_len] at a3 a4
        obtain ⟨b1, b2, b3, b4, b5⟩ := ih _ _ _ _ h a2 hr (fun i z => by rw [← Option.some.inj z, aim_len]; exact hb) (by omega)
        refine ⟨by omega, b2, by omega, by omega, fun i hi => ?_⟩
        rw [b5 i hi, a5 i (by rw [len1, aim_len]; omega), get1 (by rw [aim_len]; omega)]
        exact lo1 i hi
    · rw [if_neg c1] at h
      by_cases c2 : B p = nI 124
      · rw [if_pos c2] at h
        cases e : pp o (p + 1) (aim (aim A a) r ++ [(4, 0)]) with
        | inl f => rw [e] at h; cases h
        | inr x =>
          rw [e] at h
          obtain ⟨a1, a2, a3, a4, a5⟩ := g _ _ _ _ _ e
          rw [len1, aim_len, aim_len] at a3 a4
          obtain ⟨b1, b2, b3, b4, b5⟩ := ih _ _ _ _ h a2 (fun i z => by rw [← Option.some.inj z, aim_len, aim_len]; exact hb) (fun i z => by cases z) (by omega)
          refine ⟨by omega, b2, by omega, by omega, fun i hi => ?_⟩
          rw [b5 i hi, a5 i (by rw [len1, aim_len, aim_len]; omega), get1 (by rw [aim_len, aim_len]; omega)]
          exact lo2 i hi
      · rw [if_neg c2] at h
        injection Sum.inr.inj h with h1 h2
        subst h1 h2
        exact ⟨Nat.le_refl _, hp, by rw [aim_len, aim_len]; exact Nat.le_refl _, by rw [aim_len, aim_len]; exact Nat.le_refl _, lo2⟩
theorem pChoice_gd {pp : Pr} (t : Txt B n) (g : GdP n pp) : GdP n (pChoice B pp) := by
  intro o p A A' q h
  unfold pChoice at h
  cases e : pp o p A with
  | inl f => rw [e] at h; cases h
  | inr x =>
    rw [e] at h
    obtain ⟨a1, a2, a3, a4, a5⟩ := g _ _ _ _ _ e
    obtain ⟨b1, b2, b3, b4, b5⟩ := pCLp_gd (b := x.1.length) t g _ _ _ _ _ h a2 (fun i z => by cases z) (fun i z => by cases z) (Nat.le_refl _)
    exact ⟨by omega, b2, by omega, by omega, fun i hi => (b5 i (by omega)).trans (a5 i hi)⟩
theorem pPiece_gd {pp pc : Pr} (t : Txt B n) (g : GdP n pp) (gc : GdP n pc) : GdP n (pPiece B pp pc) := by
  intro o p A A' q h
  unfold pPiece at h
  by_cases c1 : B p = nI 33
  · rw [if_pos c1] at h
    by_cases o6 : o < 6
    · rw [if_pos o6] at h
      cases e : pp (o + 1) (p + 1) A with
      | inl f => rw [e] at h; cases h
      | inr x =>
        rw [e] at h
        obtain ⟨a1, a2, a3, a4, a5⟩ := g _ _ _ _ _ e
        injection Sum.inr.inj h with h1 h2
        subst h1 h2
        refine ⟨by omega, a2, by rw [len1]; omega, by rw [len1]; omega, fun i hi => ?_⟩
        rw [get1 (by omega)]
        exact a5 i hi
    · rw [if_neg o6] at h; cases h
  · rw [if_neg c1] at h
    by_cases c2 : B p = nI 40
    · rw [if_pos c2] at h
      by_cases o6 : o < 6
      · rw [if_pos o6] at h
        cases e : pc (o + 1) (p + 1) A with
        | inl f => rw [e] at h; cases h
        | inr x =>
          rw [e] at h
          dsimp only at h
          obtain ⟨a1, a2, a3, a4, a5⟩ := gc _ _ _ _ _ e
          by_cases c41 : B x.2 = nI 41
          · rw [if_pos c41] at h
            have l := t.lit (by decide) c41
            injection Sum.inr.inj h with h1 h2
            subst h1 h2
            exact ⟨by omega, by omega, a3, by omega, a5⟩
          · rw [if_neg c41] at h; cases h
      · rw [if_neg o6] at h; cases h
    · rw [if_neg c2] at h
      cases e : pSumD B 8 o p A with
      | inl f => rw [e] at h; cases h
      | inr x =>
        rw [e] at h
        dsimp only at h
        obtain ⟨a1, a2, a3, a4, a5⟩ := pSumD_gd t 8 _ _ _ _ _ e
        cases ec : cmpI (B x.2) with
        | none => rw [ec] at h; cases h
        | some i =>
          rw [ec] at h
          dsimp only at h
          cases e2 : pSumD B 8 o (x.2 + 1) x.1 with
          | inl f => rw [e2] at h; cases h
          | inr y =>
            rw [e2] at h
            obtain ⟨b1, b2, b3, b4, b5⟩ := pSumD_gd t 8 _ _ _ _ _ e2
            injection Sum.inr.inj h with h1 h2
            subst h1 h2
            refine ⟨by omega, b2, by rw [len1]; omega, by rw [len1]; omega, fun i hi => ?_⟩
            rw [get1 (by omega), b5 i (by omega)]
            exact a5 i hi
theorem pPieceD_gd (t : Txt B n) : ∀ d, GdP n (pPieceD B d) := by
  intro d
  induction d with
  | zero => intro o p A A' q h; cases h
  | succ d ih => exact pPiece_gd t ih (pChoice_gd t ih)
end Sizes
