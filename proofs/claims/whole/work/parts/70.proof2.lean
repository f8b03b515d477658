/-! ===== the class reads a line ===== -/
def rlE (c v w9 w12 : Int32) (g : AH) : AH := if (fX10_isSound g) = 0 then g else letT (fX6_add c v w9 w12 g) (fun g16 => g16)
def rlF (p1 c v w9 : Int32) (g : AH) : AH := if v < (3 : Int32) then rlE c v w9 (-2 : Int32) g else letT (fX10_expect (44 : Int32) g) (fun g18 => letT (fX7_number p1 (6 : Int32) g18) (fun b19 => rlE c v w9 b19.1 b19.2))
def rlD (p1 c v : Int32) (g : AH) : AH := letT (fX10_step g) (fun g8 => if v = 0 then letT (fX7_digit g8) (fun b22 => rlF p1 c v b22.1 b22.2) else letT (fX7_number p1 (6 : Int32) g8) (fun b21 => rlF p1 c v b21.1 b21.2))
def rlC (p1 c : Int32) (g4 : AH) : AH := letT (fX10_among 6 g4) (fun v5 => if v5 < 0 then letT (fX10_failHere g4) (fun g24 => rlD p1 c v5 g24) else rlD p1 c v5 g4)
def rlB (p1 p2 : Int32) (g1 : AH) : AH := letT (fX7_number p2 (3 : Int32) g1) (fun b3 => letT (fX10_expect (61 : Int32) b3.2) (fun g4 => rlC p1 b3.1 g4))
theorem readLine_B (p1 p2 : Int32) (h : AH) : fX7_readLine p1 p2 h = if (fX10_isAtDigit h) = 0 then rlB p1 p2 h else if p1 = (20 : Int32) then rlB p1 p2 (fX10_fail (4 : Int32) (h.1 1 2) h) else rlB p1 p2 h := by
  unfold fX7_readLine rlB rlC rlD rlF rlE
  rw [letT_eq]
  simp only [letT_eq]
section ClassLine
variable {B : Nat → Int32} {n : Nat}
theorem rlE_fl {f : Nat} {c v a b : Int32} {h : AH} (x : Fl f h) : Fr1 h (rlE c v a b h) ∧ Fl f (rlE c v a b h) := by
  unfold rlE
  rw [x.sound, if_pos rfl]
  exact ⟨.rf, x⟩
theorem rlF_fl {f : Nat} {p1 c v a : Int32} {h : AH} (x : Fl f h) : Fr1 h (rlF p1 c v a h) ∧ Fl f (rlF p1 c v a h) := by
  unfold rlF
  split
  · exact rlE_fl x
  · rw [letT_eq, letT_eq]
    have n1 := number_fl (a := p1) (b := 6) (x.expect (w := 44))
    obtain ⟨f3, x3⟩ := rlE_fl (c := c) (v := v) (a := a) (b := (fX7_number p1 6 (fX10_expect 44 h)).1) n1.2
    exact ⟨((expect_fr 44 h).tr n1.1).tr f3, x3⟩
theorem rlD_fl {f : Nat} {p1 c v : Int32} {h : AH} (x : Fl f h) : Fr1 h (rlD p1 c v h) ∧ Fl f (rlD p1 c v h) := by
  unfold rlD
  rw [letT_eq]
  have f1 := (step_fr h).1
  have x1 := x.step
  split
  · rw [letT_eq]
    have n1 := digit_fl x1
    obtain ⟨f3, x3⟩ := rlF_fl (p1 := p1) (c := c) (v := v) (a := (fX7_digit (fX10_step h)).1) n1.2
    exact ⟨(f1.tr n1.1).tr f3, x3⟩
  · rw [letT_eq]
    have n1 := number_fl (a := p1) (b := 6) x1
    obtain ⟨f3, x3⟩ := rlF_fl (p1 := p1) (c := c) (v := v) (a := (fX7_number p1 6 (fX10_step h)).1) n1.2
    exact ⟨(f1.tr n1.1).tr f3, x3⟩
theorem rlC_fl {f : Nat} {p1 c : Int32} {h : AH} (x : Fl f h) : Fr1 h (rlC p1 c h) ∧ Fl f (rlC p1 c h) := by
  unfold rlC
  rw [letT_eq]
  split
  · rw [letT_eq]
    obtain ⟨f3, x3⟩ := rlD_fl (p1 := p1) (c := c) (v := fX10_among 6 h) x.failHere
    exact ⟨(failHere_fr h).tr f3, x3⟩
  · exact rlD_fl x
theorem rlB_fl {f : Nat} {p1 p2 : Int32} {h : AH} (x : Fl f h) : Fr1 h (rlB p1 p2 h) ∧ Fl f (rlB p1 p2 h) := by
  unfold rlB
  rw [letT_eq, letT_eq]
  have n1 := number_fl (a := p2) (b := 3) x
  obtain ⟨f3, x3⟩ := rlC_fl (p1 := p1) (c := (fX7_number p2 3 h).1) (n1.2.expect (w := 61))
  exact ⟨(n1.1.tr (expect_fr _ _)).tr f3, x3⟩
/-- what a line read comes to -/
def LnO (B : Nat → Int32) (n : Nat) (h : AH) (r : Rs (Ln × Nat)) (g : AH) : Prop := (∀ f, r = .inl f → Fr1 h g ∧ Fl f g) ∧ ∀ L q, r = .inr (L, q) → ∃ g0, Fr1 h g0 ∧ Sd B n q g0 ∧ g = fX6_add (nI L.1) (nI L.2.1) (nI L.2.2.1) (L.2.2.2.elim (-2) nI) g0
theorem rlE_sd {p : Nat} {c v a b : Int32} {h : AH} (s : Sd B n p h) : rlE c v a b h = fX6_add c v a b h := by
  unfold rlE
  rw [s.sound, if_neg d10', letT_eq]
theorem rlD_sd {j c p k : Nat} {h : AH} (t : Txt B n) (x : Tx B n h) (s : Sd B n p h) (hj : j ≤ 20) (hk : kd (B p) = some k) : LnO B n h (pRule B j c p) (rlD (nI j) (nI c) (nI k) h) := by
  obtain ⟨-, k5, kpos⟩ := kd_amg.1 k hk
  have pn : p < n := t.inn (fun q => kpos (by rw [q]; decide))
  have f1 := (step_fr h).1
  have x1 := x.fr f1
  have s1 := step_sd t x s pn
  unfold pRule rlD
  rw [hk, letT_eq]
  dsimp only
  by_cases k0 : k = 0
  · subst k0
    rw [if_pos (show nI 0 = 0 from rfl), if_pos rfl, letT_eq]
    obtain ⟨f2, g1, g2⟩ := digit_sd t x1 s1
    cases e : dg (B (p + 1)) with
    | none =>
      obtain ⟨-, x2⟩ := g2 e
      obtain ⟨f3, x3⟩ := rlF_fl (p1 := nI j) (c := nI c) (v := nI 0) (a := (fX7_digit (fX10_step h)).1) x2
      exact ⟨fun f q => (by rw [← Sum.inl.inj q]; exact ⟨(f1.tr f2).tr f3, x3⟩), fun L q z => (by cases z)⟩
    | some d =>
      obtain ⟨ev, s2⟩ := g1 d e
      refine ⟨fun f q => (by cases q), fun L q z => ?_⟩
      injection Sum.inr.inj z with h1 h2
      subst h1 h2
      refine ⟨_, f1.tr f2, s2, ?_⟩
      unfold rlF
      rw [if_pos (by decide), rlE_sd s2, ev]
      rfl
  · rw [if_neg (show ¬ nI k = 0 from ne_lit (j := 0) (by omega) (by decide) k0), if_neg k0, letT_eq]
    obtain ⟨f2, g1, g2⟩ := number_sd (lim := j) (flt := 6) t x1 s1 (by omega) (by decide) (by decide)
    rw [show nI 6 = 6 from rfl] at f2 g1 g2
    cases e : pNum B j 6 (p + 1) with
    | inl f0 =>
      have x2 := g1 f0 e
      obtain ⟨f3, x3⟩ := rlF_fl (p1 := nI j) (c := nI c) (v := nI k) (a := (fX7_number (nI j) 6 (fX10_step h)).1) x2
      exact ⟨fun f q => (by rw [← Sum.inl.inj q]; exact ⟨(f1.tr f2).tr f3, x3⟩), fun L q z => (by cases z)⟩
    | inr aq =>
      obtain ⟨a, q⟩ := aq
      obtain ⟨ev, s2⟩ := g2 a q e
      have x2 := x1.fr f2
      dsimp only
      unfold rlF
      rw [ev]
      generalize fX7_number (nI j) 6 (fX10_step h) = b2 at f2 s2 x2
      by_cases k3 : k < 3
      · rw [if_pos (show nI k < 3 from nI_lt (b := 3) k3 (by decide)), if_pos k3, rlE_sd s2]
        refine ⟨fun f q => (by cases q), fun L r z => ?_⟩
        injection Sum.inr.inj z with h1 h2
        subst h1 h2
        exact ⟨_, f1.tr f2, s2, rfl⟩
      · rw [if_neg (show ¬ nI k < 3 from nI_nlt (b := 3) (by omega) (by omega)), if_neg k3, letT_eq, letT_eq]
        obtain ⟨ex1, ex2⟩ := s2.expect (k := 44) t x2 (by decide)
        rw [show nI 44 = 44 from rfl] at ex1 ex2
        have f3 := expect_fr 44 b2.2
        by_cases c44 : B q = nI 44
        · rw [if_pos c44]
          have s3 := ex1 c44
          have x3 := x2.fr f3
          obtain ⟨f4, y1, y2⟩ := number_sd (lim := j) (flt := 6) t x3 s3 (by omega) (by decide) (by decide)
          rw [show nI 6 = 6 from rfl] at f4 y1 y2
          cases e2 : pNum B j 6 (q + 1) with
          | inl f0 =>
            have z2 := y1 f0 e2
            obtain ⟨f5, x5⟩ := rlE_fl (c := nI c) (v := nI k) (a := nI a) (b := (fX7_number (nI j) 6 (fX10_expect 44 b2.2)).1) z2
            exact ⟨fun f q => (by rw [← Sum.inl.inj q]; exact ⟨(((f1.tr f2).tr f3).tr f4).tr f5, x5⟩), fun L q z => (by cases z)⟩
          | inr br =>
            obtain ⟨b, r⟩ := br
            obtain ⟨ev2, s4⟩ := y2 b r e2
            rw [rlE_sd s4, ev2]
            refine ⟨fun f q => (by cases q), fun L r z => ?_⟩
            injection Sum.inr.inj z with h1 h2
            subst h1 h2
            exact ⟨_, ((f1.tr f2).tr f3).tr f4, s4, rfl⟩
        · rw [if_neg c44]
          have x3 := ex2 c44
          have n1 := number_fl (a := nI j) (b := 6) x3
          obtain ⟨f5, x5⟩ := rlE_fl (c := nI c) (v := nI k) (a := nI a) (b := (fX7_number (nI j) 6 (fX10_expect 44 b2.2)).1) n1.2
          exact ⟨fun f q => (by rw [← Sum.inl.inj q]; exact ⟨(((f1.tr f2).tr f3).tr n1.1).tr f5, x5⟩), fun L q z => (by cases z)⟩
theorem LnO.fr {h g k : AH} {r : Rs (Ln × Nat)} (f : Fr1 h g) (o : LnO B n g r k) : LnO B n h r k :=
  ⟨fun e q => ⟨f.tr (o.1 e q).1, (o.1 e q).2⟩, fun L q z => by
    obtain ⟨g0, a, b, c⟩ := o.2 L q z
    exact ⟨g0, f.tr a, b, c⟩⟩
theorem rlC_sd {j c p : Nat} {h : AH} (t : Txt B n) (x : Tx B n h) (s : Sd B n p h) (hj : j ≤ 20) : LnO B n h (pRule B j c p) (rlC (nI j) (nI c) h) := by
  unfold rlC
  rw [letT_eq, (s.among t)]
  cases e : kd (B p) with
  | some k =>
    obtain ⟨e1, k5, -⟩ := kd_amg.1 k e
    rw [e1, if_neg (nI_pos (by omega))]
    exact rlD_sd t x s hj e
  | none =>
    rw [kd_amg.2 e, if_pos (by decide), letT_eq]
    obtain ⟨f3, x3⟩ := rlD_fl (p1 := nI j) (c := nI c) (v := -1) (s.failHere t)
    have er : pRule B j c p = .inl (1000 + p) := by unfold pRule; rw [e]
    rw [er]
    exact ⟨fun f q => (by rw [← Sum.inl.inj q]; exact ⟨(failHere_fr h).tr f3, x3⟩), fun L q z => (by cases z)⟩
theorem readLine_sd {j M p : Nat} {h : AH} (t : Txt B n) (x : Tx B n h) (s : Sd B n p h) (hj : j ≤ 20) (hM : M ≤ 97) : LnO B n h (pLine B M j p) (fX7_readLine (nI j) (nI M) h) := by
  have n200 := t.1
  have p200 := s.1
  rw [readLine_B, s.digit]
  have body : (dg (B p)).isNone = true ∨ ¬ j = 20 → LnO B n h (if (dg (B p)).isNone then .inl (1000 + p) else match pNum B M 3 p with | .inl f => .inl f | .inr (c, q) => if B q = nI 61 then pRule B j c (q + 1) else .inl (1000 + q)) (rlB (nI j) (nI M) h) := fun _ => by
    unfold rlB
    rw [letT_eq, letT_eq]
    obtain ⟨f2, g1, g2⟩ := number_sd (lim := M) (flt := 3) t x s (by omega) (by decide) (by decide)
    rw [show nI 3 = 3 from rfl] at f2 g1 g2
    have er : (if (dg (B p)).isNone then (.inl (1000 + p) : Rs (Ln × Nat)) else match pNum B M 3 p with | .inl f => .inl f | .inr (c, q) => if B q = nI 61 then pRule B j c (q + 1) else .inl (1000 + q)) = match pNum B M 3 p with | .inl f => .inl f | .inr (c, q) => if B q = nI 61 then pRule B j c (q + 1) else .inl (1000 + q) := by
      cases e : dg (B p) with
      | none =>
        have : pNum B M 3 p = .inl (1000 + p) := by unfold pNum; rw [e]
        rw [this]
        rfl
      | some d => rfl
    rw [er]
    cases e : pNum B M 3 p with
    | inl f0 =>
      have x2 := g1 f0 e
      obtain ⟨f3, x3⟩ := rlC_fl (p1 := nI j) (c := (fX7_number (nI M) 3 h).1) (x2.expect (w := 61))
      exact ⟨fun f q => (by rw [← Sum.inl.inj q]; exact ⟨(f2.tr (expect_fr _ _)).tr f3, x3⟩), fun L q z => (by cases z)⟩
    | inr aq =>
      obtain ⟨c, q⟩ := aq
      obtain ⟨ev, s2⟩ := g2 c q e
      have x2 := x.fr f2
      rw [ev]
      generalize fX7_number (nI M) 3 h = b2 at f2 s2 x2
      obtain ⟨ex1, ex2⟩ := s2.expect (k := 61) t x2 (by decide)
      rw [show nI 61 = 61 from rfl] at ex1 ex2
      have f3 := expect_fr 61 b2.2
      dsimp only
      by_cases c61 : B q = nI 61
      · rw [if_pos c61]
        exact (rlC_sd t (x2.fr f3) (ex1 c61) hj).fr (f2.tr f3)
      · rw [if_neg c61]
        obtain ⟨f4, x4⟩ := rlC_fl (p1 := nI j) (c := nI c) (ex2 c61)
        exact ⟨fun f q => (by rw [← Sum.inl.inj q]; exact ⟨(f2.tr f3).tr f4, x4⟩), fun L q z => (by cases z)⟩
  unfold pLine
  cases e : dg (B p) with
  | none =>
    rw [e] at body
    simp only [Option.isNone, if_true] at body ⊢
    exact body (Or.inl trivial)
  | some d =>
    rw [e] at body
    simp only [Option.isNone, Bool.false_eq_true, if_false, d10, false_or] at body ⊢
    by_cases j20 : j = 20
    · rw [if_pos (show nI j = 20 by rw [j20]; rfl), if_pos j20, s.2.1]
      have x1 := s.fail (a := 4) (b := p) (by decide) (by decide) (by omega)
      rw [show nI 4 = 4 from rfl] at x1
      obtain ⟨f3, x3⟩ := rlB_fl (p1 := nI j) (p2 := nI M) x1
      exact ⟨fun f q => (by rw [← Sum.inl.inj q]; exact ⟨(fail_fr _ _ _).tr f3, x3⟩), fun L q z => (by cases z)⟩
    · rw [if_neg (show ¬ nI j = 20 from ne_lit (j := 20) (by omega) (by decide) j20), if_neg j20]
      exact body j20
end ClassLine
