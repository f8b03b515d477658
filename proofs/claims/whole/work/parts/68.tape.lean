/-! ===== a text, gone through ===== -/
def Txt (B : Nat → Int32) (n : Nat) : Prop := n ≤ 200 ∧ (∀ p, p < n → ∃ b, b < 256 ∧ B p = nI b) ∧ ∀ p, n ≤ p → B p = -1
/-- a digit's number -/
def dg (c : Int32) : Option Nat := if c < 48 then none else if 57 < c then none else some (c.toNatClampNeg - 48)
theorem dg_some {c : Int32} {d : Nat} (h : dg c = some d) : d < 10 ∧ c = nI (48 + d) ∧ ¬ c < 48 ∧ ¬ 57 < c := by
  unfold dg at h
  by_cases a : c < 48
  · rw [if_pos a] at h; cases h
  · rw [if_neg a] at h
    by_cases b : 57 < c
    · rw [if_pos b] at h; cases h
    · rw [if_neg b] at h
      have h0 : ¬ c < 0 := fun q => a (by
        have := fa_of_lt q
        exact fa_trans q (by decide))
      obtain ⟨k, hk, rfl⟩ := nI_of h0
      have k1 : 48 ≤ k := by
        by_cases x : 48 ≤ k
        · exact x
        · exact absurd (nI_lt (a := k) (b := 48) (by omega) (by decide)) a
      have k2 : k ≤ 57 := by
        by_cases x : k ≤ 57
        · exact x
        · exact absurd (nI_lt (a := 57) (b := k) (by omega) hk) b
      have e := Option.some.inj h
      rw [nI_clamp hk] at e
      refine ⟨by omega, ?_, a, b⟩
      rw [← e]
      congr 1
      omega
theorem dg_none {c : Int32} (h : dg c = none) : c < 48 ∨ (¬ c < 48 ∧ 57 < c) := by
  unfold dg at h
  by_cases a : c < 48
  · exact Or.inl a
  · rw [if_neg a] at h
    by_cases b : 57 < c
    · exact Or.inr ⟨a, b⟩
    · rw [if_neg b] at h; cases h
theorem dg_val {c : Int32} {d : Nat} (h : dg c = some d) : c - 48 = nI d := by
  obtain ⟨h1, h2, -⟩ := dg_some h
  rw [h2, show (48 : Int32) = nI 48 from rfl, nI_sub (by omega), Nat.add_sub_cancel_left]
theorem Txt.inn {B : Nat → Int32} {n p : Nat} (t : Txt B n) (h : ¬ B p = -1) : p < n := by
  by_cases a : p < n
  · exact a
  · exact absurd (t.2.2 p (by omega)) h
theorem Txt.dig {B : Nat → Int32} {n p d : Nat} (t : Txt B n) (h : dg (B p) = some d) : p < n := t.inn (fun q => by rw [q, show dg (-1) = none by decide] at h; cases h)
theorem Txt.lit {B : Nat → Int32} {n p k : Nat} (t : Txt B n) (hk : k < 1000) (h : B p = nI k) : p < n := t.inn (fun q => by
  rw [q] at h
  exact nI_pos (n := k) (by omega) (by rw [← h]; decide))
/-- the class's tape: what else there is stays -/
def Fr1 (h g : AH) : Prop := (∀ c, c ≠ 1 → g.1 c = h.1 c) ∧ (∀ j, j ≠ 2 → j ≠ 3 → j ≠ 4 → g.1 1 j = h.1 1 j) ∧ g.2 = h.2
theorem Fr1.rf {h : AH} : Fr1 h h := ⟨fun _ _ => rfl, fun _ _ _ _ => rfl, rfl⟩
theorem Fr1.tr {h g k : AH} (a : Fr1 h g) (b : Fr1 g k) : Fr1 h k := ⟨fun c hc => (b.1 c hc).trans (a.1 c hc), fun j h1 h2 h3 => (b.2.1 j h1 h2 h3).trans (a.2.1 j h1 h2 h3), b.2.2.trans a.2.2⟩
theorem Fr1.at {h : AH} {j : Nat} {v : Int32} (hj : j = 2 ∨ j = 3 ∨ j = 4) : Fr1 h (sI h 1 j v) := by
  refine ⟨fun c hc => sI_ne h j v hc, fun i h1 h2 h3 => ?_, rfl⟩
  rw [sI_at, upd_ne _ _ (by omega)]
def Tx (B : Nat → Int32) (n : Nat) (h : AH) : Prop := h.1 1 5 = nI n ∧ ∀ p, p < n → h.1 2 p = B p
theorem Tx.fr {B : Nat → Int32} {n : Nat} {h g : AH} (f : Fr1 h g) (t : Tx B n h) : Tx B n g := by
  unfold Tx
  rw [f.2.1 5 (by decide) (by decide) (by decide), f.1 2 (by decide)]
  exact t
/-- sound, at a place -/
def Sd (B : Nat → Int32) (n p : Nat) (h : AH) : Prop := p ≤ n ∧ h.1 1 2 = nI p ∧ h.1 1 3 = B p ∧ h.1 1 4 = 0
/-- a fault -/
def Fl (f : Nat) (h : AH) : Prop := 0 < f ∧ f < 100000 ∧ h.1 1 4 = nI f
theorem Fl.nz {f : Nat} {h : AH} (x : Fl f h) : ¬ h.1 1 4 = 0 := by
  rw [x.2.2]
  exact ne_lit (j := 0) (by have := x.2.1; omega) (by decide) (by have := x.1; omega)
theorem step_fr (h : AH) : Fr1 h (fX10_step h) ∧ (fX10_step h).1 1 4 = h.1 1 4 := by
  unfold fX10_step
  dsimp only [letT]
  have key : ∀ v, Fr1 h (sI (sI h 1 2 (h.1 1 2 + 1)) 1 3 v) ∧ (sI (sI h 1 2 (h.1 1 2 + 1)) 1 3 v).1 1 4 = h.1 1 4 := fun v => ⟨(Fr1.at (Or.inl rfl)).tr (Fr1.at (Or.inr (Or.inl rfl))), rfl⟩
  split
  · exact key _
  · split
    · split
      · exact key _
      · exact key _
    · exact key _
theorem step_sd {B : Nat → Int32} {n p : Nat} {h : AH} (t : Txt B n) (x : Tx B n h) (s : Sd B n p h) (hp : p < n) : Sd B n (p + 1) (fX10_step h) := by
  have n200 := t.1
  have e2 : (sI h 1 2 (nI (p + 1))).1 1 2 = nI (p + 1) := rfl
  have e5 : (sI h 1 2 (nI (p + 1))).1 1 5 = nI n := x.1
  refine ⟨hp, ?_⟩
  unfold fX10_step
  dsimp only [letT]
  rw [s.2.1, nI_1, e2, e5, if_neg (nI_pos (by omega))]
  by_cases lt : p + 1 < n
  · rw [if_pos (nI_lt lt (by omega)), if_pos (show nI (p + 1) < 220 from nI_lt (b := 220) (by omega) (by decide)), nI_clamp (by omega)]
    refine ⟨rfl, ?_, s.2.2.2⟩
    show h.1 2 (p + 1) = _
    exact x.2 (p + 1) lt
  · rw [if_neg (nI_nlt (by omega) (by omega))]
    exact ⟨rfl, (t.2.2 (p + 1) (by omega)).symm, s.2.2.2⟩
theorem failHere_fr (h : AH) : Fr1 h (fX10_failHere h) := by
  unfold fX10_failHere
  dsimp only [letT]
  split
  · exact Fr1.at (Or.inr (Or.inr rfl))
  · exact .rf
theorem fail_fr (a b : Int32) (h : AH) : Fr1 h (fX10_fail a b h) := by
  unfold fX10_fail
  dsimp only [letT]
  split
  · exact Fr1.at (Or.inr (Or.inr rfl))
  · exact .rf
theorem expect_fr (w : Int32) (h : AH) : Fr1 h (fX10_expect w h) := by
  unfold fX10_expect
  dsimp only [letT]
  split
  · exact (step_fr h).1
  · exact failHere_fr h
theorem Fl.step {f : Nat} {h : AH} (x : Fl f h) : Fl f (fX10_step h) := ⟨x.1, x.2.1, by rw [(step_fr h).2]; exact x.2.2⟩
theorem Fl.failHere {f : Nat} {h : AH} (x : Fl f h) : Fl f (fX10_failHere h) := by
  unfold fX10_failHere
  rw [if_neg x.nz]
  exact x
theorem Fl.fail {f : Nat} {a b : Int32} {h : AH} (x : Fl f h) : Fl f (fX10_fail a b h) := by
  unfold fX10_fail
  rw [if_neg x.nz]
  exact x
theorem Fl.expect {f : Nat} {w : Int32} {h : AH} (x : Fl f h) : Fl f (fX10_expect w h) := by
  unfold fX10_expect
  dsimp only [letT]
  split
  · exact x.step
  · exact x.failHere
theorem Sd.failHere {B : Nat → Int32} {n p : Nat} {h : AH} (t : Txt B n) (s : Sd B n p h) : Fl (1000 + p) (fX10_failHere h) := by
  have := t.1
  have := s.1
  unfold fX10_failHere
  rw [if_pos s.2.2.2]
  refine ⟨by omega, by omega, ?_⟩
  show (1000 : Int32) + h.1 1 2 = _
  rw [s.2.1, show (1000 : Int32) = nI 1000 from rfl, nI_add]
theorem Sd.fail {B : Nat → Int32} {n p a b : Nat} {h : AH} (s : Sd B n p h) (ha : 0 < a) (ha2 : a < 10) (hb : b < 1000) : Fl (1000 * a + b) (fX10_fail (nI a) (nI b) h) := by
  unfold fX10_fail
  rw [if_pos s.2.2.2]
  refine ⟨by omega, by omega, ?_⟩
  show (1000 : Int32) * nI a + nI b = _
  rw [show (1000 : Int32) = nI 1000 from rfl, nI_mul, nI_add]
theorem Sd.expect {B : Nat → Int32} {n p k : Nat} {h : AH} (t : Txt B n) (x : Tx B n h) (s : Sd B n p h) (hk : k < 1000) : (B p = nI k → Sd B n (p + 1) (fX10_expect (nI k) h)) ∧ (¬ B p = nI k → Fl (1000 + p) (fX10_expect (nI k) h)) := by
  unfold fX10_expect
  dsimp only [letT]
  rw [s.2.2.1]
  refine ⟨fun e => ?_, fun e => ?_⟩
  · rw [if_pos e]
    exact step_sd t x s (t.lit hk e)
  · rw [if_neg e]
    exact s.failHere t
theorem Sd.sound {B : Nat → Int32} {n p : Nat} {h : AH} (s : Sd B n p h) : fX10_isSound h = 1 := by
  unfold fX10_isSound
  rw [if_pos s.2.2.2]
theorem Fl.sound {f : Nat} {h : AH} (x : Fl f h) : fX10_isSound h = 0 := by
  unfold fX10_isSound
  rw [if_neg x.nz]
theorem Sd.digit {B : Nat → Int32} {n p : Nat} {h : AH} (s : Sd B n p h) : fX10_isAtDigit h = if (dg (B p)).isNone then 0 else 1 := by
  unfold fX10_isAtDigit
  rw [s.2.2.1]
  cases e : dg (B p) with
  | none =>
    rcases dg_none e with a | ⟨a, b⟩
    · rw [if_pos a]; rfl
    · rw [if_neg a, if_pos b]; rfl
  | some d =>
    obtain ⟨-, -, a, b⟩ := dg_some e
    rw [if_neg a, if_neg b]; rfl
theorem Sd.atEnd {B : Nat → Int32} {n p : Nat} {h : AH} (t : Txt B n) (x : Tx B n h) (s : Sd B n p h) : fX10_isAtEnd h = if p = n then 1 else 0 := by
  have := t.1
  have := s.1
  unfold fX10_isAtEnd
  rw [s.2.1, x.1]
  by_cases e : p = n
  · rw [if_neg (nI_nlt (by omega) (by omega)), if_pos e]
  · rw [if_pos (nI_lt (by omega) (by omega)), if_neg e]
theorem letT_eq {α β : Type} (x : α) (k : α → β) : letT x k = k x := rfl
theorem begin_eq (v : Int32) (h : AH) : fX10_beginText v h = fX10_step (sI (sI (sI h 1 5 v) 1 4 0) 1 2 (-1)) := by
  unfold fX10_beginText
  rw [letT_eq, letT_eq, letT_eq, letT_eq]
theorem m1_1 : (-1 : Int32) + 1 = nI 0 := by decide
theorem step_m1 {B : Nat → Int32} {n : Nat} {g : AH} (t : Txt B n) (x : Tx B n g) (e2 : g.1 1 2 = -1) (e4 : g.1 1 4 = 0) : Sd B n 0 (fX10_step g) := by
  have n200 := t.1
  have a2 : (sI g 1 2 (nI 0)).1 1 2 = nI 0 := by rw [sI_at, upd_at]
  have a5 : (sI g 1 2 (nI 0)).1 1 5 = nI n := by rw [sI_at, upd_ne _ _ (by decide)]; exact x.1
  have a22 : (sI g 1 2 (nI 0)).1 2 = g.1 2 := sI_ne _ _ _ (by decide)
  have z1 : ¬ nI 0 < 0 := nI_pos (by omega)
  have z2 : nI 0 < 220 := nI_lt (a := 0) (b := 220) (by omega) (by omega)
  refine ⟨Nat.zero_le _, ?_, ?_, (step_fr g).2.trans e4⟩
  · unfold fX10_step
    rw [e2, m1_1, letT_eq, a2, a5, if_neg z1]
    by_cases lt : 0 < n
    · rw [if_pos (nI_lt lt (by omega)), if_pos z2, letT_eq, sI_at, upd_ne _ _ (by decide), a2]
    · rw [if_neg (nI_nlt (by omega) (by omega)), letT_eq, sI_at, upd_ne _ _ (by decide), a2]
  · unfold fX10_step
    rw [e2, m1_1, letT_eq, a2, a5, if_neg z1]
    by_cases lt : 0 < n
    · rw [if_pos (nI_lt lt (by omega)), if_pos z2, letT_eq, sI_at, upd_at, a22, nI_clamp (by omega)]
      exact x.2 0 lt
    · rw [if_neg (nI_nlt (by omega) (by omega)), letT_eq, sI_at, upd_at]
      exact (t.2.2 0 (by omega)).symm
theorem begin_sd {B : Nat → Int32} {n : Nat} {h : AH} (t : Txt B n) (hB : ∀ p, p < n → h.1 2 p = B p) : Tx B n (fX10_beginText (nI n) h) ∧ Sd B n 0 (fX10_beginText (nI n) h) ∧ (∀ c, c ≠ 1 → (fX10_beginText (nI n) h).1 c = h.1 c) ∧ (fX10_beginText (nI n) h).1 1 1 = h.1 1 1 ∧ (fX10_beginText (nI n) h).2 = h.2 := by
  rw [begin_eq]
  have e5 : (sI (sI (sI h 1 5 (nI n)) 1 4 0) 1 2 (-1)).1 1 5 = nI n := by rw [sI_at, upd_ne _ _ (by decide), sI_at, upd_ne _ _ (by decide), sI_at, upd_at]
  have e4 : (sI (sI (sI h 1 5 (nI n)) 1 4 0) 1 2 (-1)).1 1 4 = 0 := by rw [sI_at, upd_ne _ _ (by decide), sI_at, upd_at]
  have e2 : (sI (sI (sI h 1 5 (nI n)) 1 4 0) 1 2 (-1)).1 1 2 = -1 := by rw [sI_at, upd_at]
  have e1 : (sI (sI (sI h 1 5 (nI n)) 1 4 0) 1 2 (-1)).1 1 1 = h.1 1 1 := by rw [sI_at, upd_ne _ _ (by decide), sI_at, upd_ne _ _ (by decide), sI_at, upd_ne _ _ (by decide)]
  have ec : ∀ c, c ≠ 1 → (sI (sI (sI h 1 5 (nI n)) 1 4 0) 1 2 (-1)).1 c = h.1 c := fun c hc => by rw [sI_ne _ _ _ hc, sI_ne _ _ _ hc, sI_ne _ _ _ hc]
  have ej : (sI (sI (sI h 1 5 (nI n)) 1 4 0) 1 2 (-1)).2 = h.2 := rfl
  generalize sI (sI (sI h 1 5 (nI n)) 1 4 0) 1 2 (-1) = g at e5 e4 e2 e1 ec ej
  obtain ⟨f, f4⟩ := step_fr g
  have x0 : Tx B n g := ⟨e5, fun p hp => by rw [ec 2 (by decide)]; exact hB p hp⟩
  exact ⟨x0.fr f, step_m1 t x0 e2 e4, fun c hc => (f.1 c hc).trans (ec c hc), (f.2.1 1 (by decide) (by decide) (by decide)).trans e1, f.2.2.trans ej⟩
/-- where a sign stands among some -/
def amg (l : List Int32) (c : Int32) : Int32 := if c < 0 then -1 else (match l.findIdx? (fun b => b == c) with | some k => Int32.ofNat k | none => -1)
theorem i2c_b : ∀ b, b < 256 → ji2c (nI b) = nI b := by decide +kernel
theorem Sd.among {B : Nat → Int32} {n p i : Nat} {h : AH} (s : Sd B n p h) (t : Txt B n) : fX10_among i h = amg (bytS.getD i []) (B p) := by
  unfold fX10_among amg
  rw [s.2.2.1]
  by_cases c : B p < 0
  · rw [if_pos c, if_pos c]
  · rw [if_neg c, if_neg c]
    have hp : p < n := t.inn (fun q => c (by rw [q]; decide))
    obtain ⟨b, hb, e⟩ := t.2.1 p hp
    rw [e, i2c_b b hb]
    cases (bytS.getD i []).findIdx? (fun x => x == nI b) <;> rfl
/-! ===== the model's ===== -/
def Tm (B : Nat → Int32) (n : Nat) (h : AH) : Prop := h.1 75 12 = nI n ∧ ∀ p, p < n → h.1 82 p &&& 255 = B p
theorem here_eq {B : Nat → Int32} {n p : Nat} {h : AH} (t : Txt B n) (x : Tm B n h) (e : h.1 75 11 = nI p) (hp : p ≤ n) : fX12_here h = some (B p) := by
  have n200 := t.1
  unfold fX12_here
  rw [e, x.1]
  by_cases lt : p < n
  · rw [if_pos (nI_lt lt (by omega)), if_neg (gd (show p < 220 by omega) (by decide)), nI_clamp (by omega), x.2 p lt]
  · rw [if_neg (nI_nlt (by omega) (by omega)), t.2.2 p (by omega)]
theorem isDigit_eq {B : Nat → Int32} {n p : Nat} {h : AH} (t : Txt B n) (x : Tm B n h) (e : h.1 75 11 = nI p) (hp : p ≤ n) : fX12_isDigit h = some (if (dg (B p)).isNone then 0 else 1) := by
  unfold fX12_isDigit
  rw [here_eq t x e hp, ob, ob]
  cases q : dg (B p) with
  | none =>
    rcases dg_none q with a | ⟨a, b⟩
    · rw [if_pos a]; rfl
    · rw [if_neg a, if_pos b]; rfl
  | some d =>
    obtain ⟨-, -, a, b⟩ := dg_some q
    rw [if_neg a, if_neg b]; rfl
theorem ft_eq (a b : Nat) : (-1000 : Int32) * nI a - nI b = -(nI (1000 * a + b)) := by
  rw [← nI_add, ← nI_mul, show nI 1000 = 1000 from rfl, Int32.neg_add, Int32.sub_eq_add_neg, Int32.neg_mul, Int32.sub_eq_add_neg]
theorem wrongAt_eq (a b : Nat) (h : AH) : fX12_wrongAt (nI a) (nI b) h = (0, sI h 75 13 (-(nI (1000 * a + b)))) := by
  unfold fX12_wrongAt
  dsimp only [letT]
  rw [ft_eq]
theorem takes_eq {B : Nat → Int32} {n p k : Nat} {h : AH} (t : Txt B n) (x : Tm B n h) (e : h.1 75 11 = nI p) (hp : p ≤ n) : (B p = nI k → fX12_takes (nI k) h = some (1, sI h 75 11 (nI (p + 1)))) ∧ (¬ B p = nI k → fX12_takes (nI k) h = some (0, sI h 75 13 (-(nI (1000 + p))))) := by
  unfold fX12_takes
  rw [here_eq t x e hp, ob]
  dsimp only [letT]
  refine ⟨fun q => ?_, fun q => ?_⟩
  · rw [if_pos q, e, nI_1]
  · rw [if_neg q]
    rw [e, show (1 : Int32) = nI 1 from rfl, wrongAt_eq, if_pos (Or.inl rfl)]
