/-! ===== a proof's text: what it says ===== -/
abbrev Rs (α : Type) : Type := Nat ⊕ α
/-- one or two digits, below a bound -/
def pNum (B : Nat → Int32) (lim flt p : Nat) : Rs (Nat × Nat) := match dg (B p) with
  | none => .inl (1000 + p)
  | some d => match dg (B (p + 1)) with
    | none => if d < lim then .inr (d, p + 1) else .inl (1000 * flt + p)
    | some e => if 10 * d + e < lim then .inr (10 * d + e, p + 2) else .inl (1000 * flt + p)
def kdl : List Int32 := [97, 115, 110, 43, 42]
def kd (c : Int32) : Option Nat := if c < 0 then none else kdl.findIdx? (fun b => b == c)
/-- claim, kind, first, second -/
abbrev Ln : Type := Nat × Nat × Nat × Option Nat
def pRule (B : Nat → Int32) (j cl p : Nat) : Rs (Ln × Nat) := match kd (B p) with
  | none => .inl (1000 + p)
  | some k =>
    if k = 0 then (match dg (B (p + 1)) with | none => .inl (1000 + (p + 1)) | some d => .inr ((cl, 0, d, none), p + 2))
    else match pNum B j 6 (p + 1) with
      | .inl f => .inl f
      | .inr (a, q) =>
        if k < 3 then .inr ((cl, k, a, none), q)
        else if B q = nI 44 then (match pNum B j 6 (q + 1) with | .inl f => .inl f | .inr (b, r) => .inr ((cl, k, a, some b), r)) else .inl (1000 + q)
def pLine (B : Nat → Int32) (M j p : Nat) : Rs (Ln × Nat) := if (dg (B p)).isNone then .inl (1000 + p) else if j = 20 then .inl (4000 + p) else match pNum B M 3 p with
  | .inl f => .inl f
  | .inr (c, q) => if B q = nI 61 then pRule B j c (q + 1) else .inl (1000 + q)
theorem pNum_ok {B : Nat → Int32} {n lim flt p v q : Nat} (t : Txt B n) (h : pNum B lim flt p = .inr (v, q)) : v < lim ∧ v < 100 ∧ p < q ∧ q ≤ n := by
  unfold pNum at h
  cases e1 : dg (B p) with
  | none => rw [e1] at h; cases h
  | some d =>
    rw [e1] at h
    have d1 := (dg_some e1).1
    have p1 := t.dig e1
    cases e2 : dg (B (p + 1)) with
    | none =>
      rw [e2] at h
      dsimp only at h
      by_cases a : d < lim
      · rw [if_pos a] at h
        have := Sum.inr.inj h
        injection this with h1 h2
        omega
      · rw [if_neg a] at h; cases h
    | some e =>
      rw [e2] at h
      have d2 := (dg_some e2).1
      have p2 := t.dig e2
      dsimp only at h
      by_cases a : 10 * d + e < lim
      · rw [if_pos a] at h
        have := Sum.inr.inj h
        injection this with h1 h2
        omega
      · rw [if_neg a] at h; cases h
/-! ===== the class reads it ===== -/
section ClassReads
variable {B : Nat → Int32} {n : Nat}
theorem digit_sd {p : Nat} {h : AH} (t : Txt B n) (x : Tx B n h) (s : Sd B n p h) : Fr1 h (fX7_digit h).2 ∧ (∀ d, dg (B p) = some d → (fX7_digit h).1 = nI d ∧ Sd B n (p + 1) (fX7_digit h).2) ∧ (dg (B p) = none → (fX7_digit h).1 = nI 0 ∧ Fl (1000 + p) (fX7_digit h).2) := by
  unfold fX7_digit
  rw [s.digit]
  cases e : dg (B p) with
  | none =>
    simp only [Option.isNone, if_true]
    rw [letT_eq]
    exact ⟨failHere_fr h, fun d q => (by cases q), fun _ => ⟨rfl, s.failHere t⟩⟩
  | some d =>
    simp only [Option.isNone, Bool.false_eq_true, if_false, d10]
    rw [letT_eq, letT_eq]
    refine ⟨(step_fr h).1, fun d' q => ?_, fun q => (by cases q)⟩
    have : d = d' := Option.some.inj q
    subst this
    refine ⟨?_, step_sd t x s (t.dig e)⟩
    show h.1 1 3 - 48 = nI d
    rw [s.2.2.1]
    exact dg_val e
theorem digit_fl {f : Nat} {h : AH} (x : Fl f h) : Fr1 h (fX7_digit h).2 ∧ Fl f (fX7_digit h).2 := by
  unfold fX7_digit
  split
  · exact ⟨failHere_fr h, x.failHere⟩
  · exact ⟨(step_fr h).1, x.step⟩
theorem number_fl {f : Nat} {a b : Int32} {h : AH} (x : Fl f h) : Fr1 h (fX7_number a b h).2 ∧ Fl f (fX7_number a b h).2 := by
  unfold fX7_number
  rw [letT_eq, letT_eq]
  obtain ⟨f1, x1⟩ := digit_fl x
  generalize fX7_digit h = b1 at f1 x1
  rw [x1.sound, if_pos rfl]
  dsimp only
  split
  · exact ⟨f1, x1⟩
  · exact ⟨f1.tr (fail_fr _ _ _), x1.fail⟩
theorem number_sd {p lim flt : Nat} {h : AH} (t : Txt B n) (x : Tx B n h) (s : Sd B n p h) (hl : lim < 1000) (hf : 0 < flt) (hf2 : flt < 10) : Fr1 h (fX7_number (nI lim) (nI flt) h).2 ∧ (∀ f, pNum B lim flt p = .inl f → Fl f (fX7_number (nI lim) (nI flt) h).2) ∧ ∀ v q, pNum B lim flt p = .inr (v, q) → (fX7_number (nI lim) (nI flt) h).1 = nI v ∧ Sd B n q (fX7_number (nI lim) (nI flt) h).2 := by
  have n200 := t.1
  have p200 := s.1
  unfold fX7_number
  rw [letT_eq, letT_eq, s.2.1]
  obtain ⟨f1, g1, g2⟩ := digit_sd t x s
  unfold pNum
  cases e1 : dg (B p) with
  | none =>
    obtain ⟨ev, x1⟩ := g2 e1
    generalize fX7_digit h = b1 at f1 x1 ev
    rw [x1.sound, if_pos rfl, ev]
    dsimp only
    split
    · exact ⟨f1, fun f q => (by rw [← Sum.inl.inj q]; exact x1), fun v q z => (by cases z)⟩
    · exact ⟨f1.tr (fail_fr _ _ _), fun f q => (by rw [← Sum.inl.inj q]; exact x1.fail), fun v q z => (by cases z)⟩
  | some d =>
    obtain ⟨ev, s1⟩ := g1 d e1
    have d1 := (dg_some e1).1
    generalize fX7_digit h = b1 at f1 s1 ev
    have x1 := x.fr f1
    rw [s1.sound, if_neg d10', s1.digit]
    obtain ⟨f2, k1, k2⟩ := digit_sd t x1 s1
    cases e2 : dg (B (p + 1)) with
    | none =>
      simp only [Option.isNone, if_true]
      rw [ev]
      by_cases a : d < lim
      · rw [if_pos (nI_lt a (by omega)), if_pos a]
        refine ⟨f1, fun f q => (by cases q), fun v q z => ?_⟩
        injection Sum.inr.inj z with h1 h2
        rw [← h1, ← h2]
        exact ⟨rfl, s1⟩
      · rw [if_neg (nI_nlt (by omega) (by omega)), if_neg a]
        refine ⟨f1.tr (fail_fr _ _ _), fun f q => ?_, fun v q z => (by cases z)⟩
        rw [← Sum.inl.inj q]
        exact s1.fail hf hf2 (by omega)
    | some e =>
      obtain ⟨ev2, s2⟩ := k1 e e2
      have d2 := (dg_some e2).1
      simp only [Option.isNone, Bool.false_eq_true, if_false, d10]
      rw [letT_eq, letT_eq, ev, ev2, show (10 : Int32) = nI 10 from rfl, nI_mul, nI_add]
      by_cases a : 10 * d + e < lim
      · rw [if_pos (nI_lt a (by omega)), if_pos a]
        refine ⟨f1.tr f2, fun f q => (by cases q), fun v q z => ?_⟩
        injection Sum.inr.inj z with h1 h2
        rw [← h1, ← h2]
        exact ⟨rfl, s2⟩
      · rw [if_neg (nI_nlt (by omega) (by omega)), if_neg a]
        refine ⟨(f1.tr f2).tr (fail_fr _ _ _), fun f q => ?_, fun v q z => (by cases z)⟩
        rw [← Sum.inl.inj q]
        exact s2.fail hf hf2 (by omega)
theorem kd_amg {c : Int32} : (∀ k, kd c = some k → amg (bytS.getD 6 []) c = nI k ∧ k < 5 ∧ ¬ c < 0) ∧ (kd c = none → amg (bytS.getD 6 []) c = -1) := by
  have e : bytS.getD 6 [] = kdl := rfl
  rw [e]
  unfold amg kd
  by_cases a : c < 0
  · rw [if_pos a, if_pos a]
    exact ⟨fun k q => (by cases q), fun _ => rfl⟩
  · rw [if_neg a, if_neg a]
    cases q : kdl.findIdx? (fun b => b == c) with
    | none => exact ⟨fun k z => (by cases z), fun _ => rfl⟩
    | some k =>
      refine ⟨fun k' z => ?_, fun z => (by cases z)⟩
      have : k = k' := Option.some.inj z
      subst this
      refine ⟨rfl, ?_, a⟩
      have := (List.findIdx?_eq_some_iff_getElem.mp q).1
      exact this
end ClassReads
