/-! ===== the class reads a law: words laid ===== -/
theorem jshl4 (k : Nat) : jshl (nI k) 4 = nI (16 * k) := by
  refine b_ext (fun i hi => ?_)
  have e := b_shl 4 (by decide) (nI k) hi
  have e' : bt (jshl (nI k) 4) i = (decide (4 ≤ i) && bt (nI k) (i - 4)) := e
  rw [e', bt_nI hi, bt_nI (by omega), show (16 : Nat) = 2 ^ 4 from rfl, Nat.testBit_two_pow_mul]
theorem word_mk {o k : Nat} (ho : o < 16) : jshl (nI k) 4 ||| nI o = nI (16 * k + o) := by
  rw [jshl4]
  exact fa_or_sum (k := 4) k ho
def LFr (h g : AH) : Prop := (∀ c, c ≠ 1 → c ≠ 35 → c ≠ 36 → g.1 c = h.1 c) ∧ (∀ j, j ≠ 2 → j ≠ 3 → j ≠ 4 → g.1 1 j = h.1 1 j) ∧ g.1 35 0 = h.1 35 0 ∧ g.2 = h.2
theorem LFr.rf {h : AH} : LFr h h := ⟨fun _ _ _ _ => rfl, fun _ _ _ _ => rfl, rfl, rfl⟩
theorem LFr.tr {h g k : AH} (a : LFr h g) (b : LFr g k) : LFr h k := ⟨fun c h1 h2 h3 => (b.1 c h1 h2 h3).trans (a.1 c h1 h2 h3), fun j h1 h2 h3 => (b.2.1 j h1 h2 h3).trans (a.2.1 j h1 h2 h3), b.2.2.1.trans a.2.2.1, b.2.2.2.trans a.2.2.2⟩
theorem Fr1.l {h g : AH} (a : Fr1 h g) : LFr h g := ⟨fun c h1 _ _ => a.1 c h1, a.2.1, by rw [a.1 35 (by decide)], a.2.2⟩
theorem Tx.frL {B : Nat → Int32} {n : Nat} {h g : AH} (f : LFr h g) (t : Tx B n h) : Tx B n g := by
  unfold Tx
  rw [f.2.1 5 (by decide) (by decide) (by decide), f.1 2 (by decide) (by decide) (by decide)]
  exact t
def CodX (h : AH) (A : Cd) : Prop := h.1 35 2 = nI A.length ∧ ∀ p op num, A[p]? = some (op, num) → h.1 36 p = nI (16 * num + op) ∧ op < 16 ∧ num < 100000
theorem CodX.fr {h g : AH} {A : Cd} (f : Fr1 h g) (c : CodX h A) : CodX g A := by
  unfold CodX
  rw [f.1 35 (by decide), f.1 36 (by decide)]
  exact c
/-- words laid leave the rest -/
def Wd5 (h g : AH) : Prop := (∀ c, c ≠ 35 → c ≠ 36 → g.1 c = h.1 c) ∧ (∀ j, j ≠ 2 → g.1 35 j = h.1 35 j) ∧ g.2 = h.2
theorem Wd5.l {h g : AH} (w : Wd5 h g) : LFr h g := ⟨fun c _ h2 h3 => w.1 c h2 h3, fun j _ _ _ => by rw [w.1 1 (by decide) (by decide)], w.2.1 0 (by decide), w.2.2⟩
theorem Wd5.fl {f : Nat} {h g : AH} (w : Wd5 h g) (x : Fl f h) : Fl f g := ⟨x.1, x.2.1, by rw [w.1 1 (by decide) (by decide)]; exact x.2.2⟩
theorem Wd5.sd {B : Nat → Int32} {n p : Nat} {h g : AH} (w : Wd5 h g) (x : Sd B n p h) : Sd B n p g := x.add (w.1 1 (by decide) (by decide))
theorem put36 (i v : Int32) (h : AH) : ∃ r, fX11_put 36 i v h = sR h 36 r := by
  unfold fX11_put
  split
  · exact ⟨h.1 36, (sR_self _ _).symm⟩
  · split
    · exact ⟨_, rfl⟩
    · exact ⟨h.1 36, (sR_self _ _).symm⟩
theorem emit_wd (a b : Int32) (h : AH) : Wd5 h (fX4_emit a b h).2 := by
  unfold fX4_emit
  obtain ⟨r, e⟩ := put36 (h.1 35 2) (jshl b 4 ||| a) h
  rw [letT_eq, letT_eq, e]
  refine ⟨fun c h1 h2 => ?_, fun j hj => ?_, rfl⟩
  · show (sI (sR h 36 r) 35 2 _).1 c = _
    rw [sI_ne _ _ _ h1, sR_ne _ _ h2]
  · show (sI (sR h 36 r) 35 2 _).1 35 j = _
    rw [sI_at, upd_ne _ _ hj, sR_ne _ _ (by decide)]
theorem emit_eq {h : AH} {A : Cd} {o k : Nat} (c : CodX h A) (hl : A.length < 200) (ho : o < 16) (hk : k < 100000) : (fX4_emit (nI o) (nI k) h).1 = nI A.length ∧ CodX (fX4_emit (nI o) (nI k) h).2 (A ++ [(o, k)]) := by
  obtain ⟨c1, c2⟩ := c
  unfold fX4_emit
  rw [letT_eq, letT_eq, c1, word_mk ho, put_in (show A.length < aln 36 from hl)]
  have e2 : (sI h 36 A.length (nI (16 * k + o))).1 35 2 = nI A.length := by rw [sI_ne _ _ _ (by decide)]; exact c1
  rw [e2, nI_1]
  dsimp only
  refine ⟨?_, ?_, fun p op num hp => ?_⟩
  · rw [sI_at, upd_at, nI_sub1 (by omega), Nat.add_sub_cancel]
  · rw [sI_at, upd_at, len1]
  · rw [sI_ne _ _ _ (by decide), sI_at]
    by_cases lt : p < A.length
    · rw [get1 lt] at hp
      rw [upd_ne _ _ (by omega)]
      exact c2 p op num hp
    · have lq := (List.getElem?_eq_some_iff.mp hp).1
      rw [len1] at lq
      have : p = A.length := by omega
      subst this
      rw [lastAt] at hp
      injection Option.some.inj hp with h1 h2
      rw [upd_at, h1, h2]
      exact ⟨rfl, by omega, by omega⟩
theorem aimHere_wd (a : Int32) (h : AH) : Wd5 h (fX4_aimHere a h) := by
  unfold fX4_aimHere
  split
  · exact ⟨fun _ _ _ => rfl, fun _ _ => rfl, rfl⟩
  · rw [letT_eq]
    obtain ⟨r, e⟩ := put36 a (fX11_at 36 a h ||| jshl (h.1 35 2) 4) h
    rw [e]
    exact ⟨fun c h1 h2 => sR_ne _ _ h2, fun j _ => by rw [sR_ne _ _ (by decide)], rfl⟩
/-- an index that waits -/
def ix (a : Option Nat) : Int32 := a.elim (-1) nI
theorem aimHere_eq {h : AH} {A : Cd} {a : Option Nat} (c : CodX h A) (hl : A.length ≤ 200) (ha : ∀ i, a = some i → ∃ o, A[i]? = some (o, 0)) : CodX (fX4_aimHere (ix a) h) (aim A a) := by
  obtain ⟨c1, c2⟩ := c
  cases a with
  | none =>
    unfold fX4_aimHere
    rw [if_pos (show ix none < 0 by decide)]
    exact ⟨c1, c2⟩
  | some i =>
    obtain ⟨o, e⟩ := ha i rfl
    have li := (List.getElem?_eq_some_iff.mp e).1
    obtain ⟨w1, w2, -⟩ := c2 i o 0 e
    unfold fX4_aimHere
    rw [if_neg (show ¬ ix (some i) < 0 from nI_pos (by omega)), letT_eq]
    show CodX (fX11_put 36 (nI i) (fX11_at 36 (nI i) h ||| jshl (h.1 35 2) 4) h) (aim A (some i))
    rw [at_in (show i < aln 36 by show _ < 200; omega), put_in (show i < aln 36 by show _ < 200; omega), w1, c1, jshl4, Nat.mul_zero, Nat.zero_add]
    have eo : nI o ||| nI (16 * A.length) = nI (16 * A.length + o) := by
      rw [fa_or, Nat.or_comm, ← fa_or]
      exact fa_or_sum (k := 4) A.length w2
    rw [eo]
    refine ⟨?_, fun p op num hp => ?_⟩
    · rw [sI_ne _ _ _ (by decide), aim_len]; exact c1
    · rw [sI_at]
      by_cases ep : p = i
      · subst ep
        rw [aim_at e] at hp
        injection Option.some.inj hp with h1 h2
        rw [upd_at, ← h1, ← h2]
        exact ⟨rfl, w2, by omega⟩
      · rw [aim_ne (fun q => ep (Option.some.inj q).symm)] at hp
        rw [upd_ne _ _ ep]
        exact c2 p op num hp
def Ask01 (h : AH) : Prop := h.1 35 1 = 0 ∨ h.1 35 1 = 1
def AskX (h g : AH) (A A' : Cd) : Prop := Ask01 g ∧ (g.1 35 1 = 0 → h.1 35 1 = 0 ∧ (h.1 34 2 = nI 114 → ∀ i, A.length ≤ i → A'[i]? ≠ some (1, 2)))
def OutX (B : Nat → Int32) (n : Nat) (h : AH) (A : Cd) (r : Rs (Cd × Nat)) (g : AH) : Prop := LFr h g ∧ (∀ f, r = .inl f → Fl f g) ∧ ∀ A' q, r = .inr (A', q) → Sd B n q g ∧ CodX g A' ∧ AskX h g A A'
section ClassLaw
variable {B : Nat → Int32} {n : Nat}
theorem number5_eq {K : Int32 → AH → Option (Int32 × AH)} (t : Txt B n) : ∀ (k p v m x2 : Nat) (h : AH), x2 + k = 5 → k < m → Tx B n h → Sd B n p h → v < 10 ^ x2 → ∃ g w q, fX5_number_l4 K m (nI v) (nI x2) h = K (nI w) g ∧ Fr1 h g ∧ Sd B n q g ∧ w < 100000 ∧ ((∃ d, dg (B q) = some d) ∧ pN5 B k p v = .inl (2000 + q) ∨ dg (B q) = none ∧ pN5 B k p v = .inr (w, q)) := by
  intro k
  induction k with
  | zero =>
    intro p v m x2 h h1 h2 x s hv
    obtain ⟨m, rfl⟩ : ∃ m', m = m' + 1 := ⟨m - 1, by omega⟩
    have : x2 = 5 := by omega
    subst this
    refine ⟨h, v, p, ?_, .rf, s, by omega, ?_⟩
    · show fX5_number_l4b (fX5_number_l4 K m) K (nI v) (nI 5) h = _
      unfold fX5_number_l4b
      rw [if_neg (show ¬ nI 5 < 5 by decide)]
    · unfold pN5
      cases e : dg (B p) with
      | none => exact Or.inr ⟨rfl, rfl⟩
      | some d => exact Or.inl ⟨⟨d, rfl⟩, rfl⟩
  | succ k ih =>
    intro p v m x2 h h1 h2 x s hv
    obtain ⟨m, rfl⟩ : ∃ m', m = m' + 1 := ⟨m - 1, by omega⟩
    have un : fX5_number_l4 K (m + 1) (nI v) (nI x2) h = fX5_number_l4b (fX5_number_l4 K m) K (nI v) (nI x2) h := rfl
    rw [un]
    unfold fX5_number_l4b pN5
    rw [if_pos (show nI x2 < 5 from nI_lt (b := 5) (by omega) (by decide)), s.digit]
    cases e : dg (B p) with
    | none =>
      have lt : v < 100000 := Nat.lt_of_lt_of_le hv (Nat.pow_le_pow_right (n := 10) (i := x2) (j := 5) (by decide) (by omega))
      exact ⟨h, v, p, rfl, .rf, s, lt, Or.inr ⟨e, rfl⟩⟩
    | some d =>
      obtain ⟨d9, ed, -, -⟩ := dg_some e
      have lv : v < 100000 := Nat.lt_of_lt_of_le hv (Nat.pow_le_pow_right (n := 10) (i := x2) (j := 5) (by decide) (by omega))
      simp only [Option.isNone, Bool.false_eq_true, if_false, d10]
      rw [letT_eq, letT_eq, s.2.2.1, ed, show (10 : Int32) = nI 10 from rfl, nI_mul, nI_add, show (48 : Int32) = nI 48 from rfl, nI_sub (by omega), nI_1, show 10 * v + (48 + d) - 48 = 10 * v + d by omega]
      have s1 := step_sd t x s (t.dig e)
      obtain ⟨g, w, q, a1, a2, a3, a4, a5⟩ := ih (p + 1) (10 * v + d) m (x2 + 1) (fX10_step h) (by omega) (by omega) (x.fr (step_fr h).1) s1 (by rw [Nat.pow_succ]; omega)
      exact ⟨g, w, q, a1, (step_fr h).1.tr a2, a3, a4, a5⟩
theorem mayOpen_eq {o p : Nat} {h : AH} (t : Txt B n) (x : Tx B n h) (s : Sd B n p h) (hp : p < n) (ho : o ≤ 6) : (o < 6 → fX5_mayOpen (nI o) h = some (1, fX10_step h)) ∧ (¬ o < 6 → ∃ g, fX5_mayOpen (nI o) h = some (0, g) ∧ Fr1 h g ∧ Fl (5000 + p) g) := by
  have n200 := t.1
  unfold fX5_mayOpen
  rw [letT_eq]
  refine ⟨fun o6 => ?_, fun o6 => ?_⟩
  · rw [if_pos (show nI o < 6 from nI_lt (b := 6) o6 (by decide))]
    dsimp only
    rw [letT_eq, (step_sd t x s hp).sound, if_pos (Or.inr rfl)]
  · rw [if_neg (show ¬ nI o < 6 from nI_nlt (b := 6) (by omega) (by omega)), letT_eq]
    dsimp only
    have x1 := s.fail (a := 5) (b := p) (by decide) (by decide) (by omega)
    rw [show nI 5 = 5 from rfl] at x1
    rw [s.2.1, letT_eq, x1.step.sound, if_pos (Or.inl rfl)]
    exact ⟨_, rfl, (fail_fr _ _ _).tr (step_fr _).1, x1.step⟩
theorem amg_lt {l : List Int32} {c : Int32} : (∀ k, l.findIdx? (fun b => b == c) = some k → ¬ c < 0 → k < 1000 → amg l c = nI k ∧ ¬ amg l c < 0) ∧ ((c < 0 ∨ l.findIdx? (fun b => b == c) = none) → amg l c < 0) := by
  unfold amg
  refine ⟨fun k e h0 hk => ?_, fun e => ?_⟩
  · rw [if_neg h0, e]
    exact ⟨rfl, nI_pos (by omega)⟩
  · by_cases h0 : c < 0
    · rw [if_pos h0]; decide
    · rw [if_neg h0, e.resolve_left h0]; decide
theorem fct_amg {c : Int32} : (∀ i, fct c = some i → amg (bytS.getD 5 []) c = nI i ∧ i < 8) ∧ (fct c = none → amg (bytS.getD 5 []) c < 0) := by
  unfold fct
  by_cases h0 : c < 0
  · rw [if_pos h0]
    exact ⟨fun i q => (by cases q), fun _ => amg_lt.2 (Or.inl h0)⟩
  · rw [if_neg h0]
    refine ⟨fun i q => ?_, fun q => amg_lt.2 (Or.inr q)⟩
    have l : i < 8 := (List.findIdx?_eq_some_iff_getElem.mp q).1
    exact ⟨(amg_lt.1 i q h0 (by omega)).1, l⟩
def SimX (B : Nat → Int32) (n : Nat) (P : Pr) (f : Int32 → AH → Option AH) (lo : Nat) : Prop := ∀ o p A h, lo ≤ o → o ≤ 6 → Tx B n h → Sd B n p h → CodX h A → Ask01 h → A.length ≤ p → ∃ g, f (nI o) h = some g ∧ OutX B n h A (P o p A) g
theorem OutX.inl {h : AH} {A : Cd} {f : Nat} {g : AH} (l : LFr h g) (x : Fl f g) : OutX B n h A (.inl f) g := by
  refine ⟨l, fun f' q => ?_, fun A' q z => (by cases z)⟩
  rw [← Sum.inl.inj q]
  exact x
theorem OutX.inr {h : AH} {A A' : Cd} {q : Nat} {g : AH} (l : LFr h g) (s : Sd B n q g) (c : CodX g A') (a : AskX h g A A') : OutX B n h A (.inr (A', q)) g := by
  refine ⟨l, fun f' z => (by cases z), fun A'' q' z => ?_⟩
  injection Sum.inr.inj z with h1 h2
  subst h1 h2
  exact ⟨s, c, a⟩
theorem AskX.keep {h g : AH} {A : Cd} {x : Nat × Nat} (a : Ask01 h) (e : g.1 35 1 = h.1 35 1) (hx : x ≠ (1, 2)) : AskX h g A (A ++ [x]) := by
  refine ⟨by unfold Ask01; rw [e]; exact a, fun z => ⟨by rw [← e]; exact z, fun _ i hi q => ?_⟩⟩
  have lq := (List.getElem?_eq_some_iff.mp q).1
  rw [len1] at lq
  have : i = A.length := by omega
  subst this
  rw [lastAt] at q
  exact hx (Option.some.inj q)
theorem readFactor_sim {ps : Pr} {rs : Int32 → AH → Option AH} {lo : Nat} (t : Txt B n) (gp : GdP n ps) (S : SimX B n ps rs (lo + 1)) : SimX B n (pFac B ps) (fX5_readFactor rs) lo := by
  intro o p A h hlo ho x s c ask hl
  have n200 := t.1
  have p200 := s.1
  unfold fX5_readFactor pFac
  rw [s.2.2.1]
  by_cases c91 : B p = nI 91
  · have pn := t.lit (by decide) c91
    obtain ⟨m1, m2⟩ := mayOpen_eq t x s pn ho
    rw [if_pos (show B p = 91 from c91), if_pos c91]
    by_cases o6 : o < 6
    · rw [m1 o6, ob, if_neg d10', if_pos o6, nI_1]
      have f1 := (step_fr h).1
      obtain ⟨g, e, l, i1, i2⟩ := S (o + 1) (p + 1) A (fX10_step h) (by omega) (by omega) (x.fr f1) (step_sd t x s pn) (c.fr f1) (by unfold Ask01; rw [f1.1 35 (by decide)]; exact ask) (by omega)
      rw [e, ob, letT_eq]
      have f2 := expect_fr 93 g
      refine ⟨_, rfl, ?_⟩
      cases er : ps (o + 1) (p + 1) A with
      | inl f0 => exact OutX.inl (((f1.l).tr l).tr f2.l) (i1 f0 er).expect
      | inr Aq =>
        obtain ⟨A', q⟩ := Aq
        obtain ⟨s2, c2, a2⟩ := i2 A' q er
        have x2 : Tx B n g := (x.fr f1).frL l
        obtain ⟨ex1, ex2⟩ := s2.expect (k := 93) t x2 (by decide)
        dsimp only
        by_cases c93 : B q = nI 93
        · rw [if_pos c93]
          refine OutX.inr ((f1.l.tr l).tr f2.l) (ex1 c93) (c2.fr f2) ⟨by unfold Ask01; rw [f2.1 35 (by decide)]; exact a2.1, fun z => ?_⟩
          rw [f2.1 35 (by decide)] at z
          obtain ⟨z1, z2⟩ := a2.2 z
          rw [f1.1 35 (by decide)] at z1
          rw [f1.1 34 (by decide)] at z2
          exact ⟨z1, z2⟩
        · rw [if_neg c93]
          exact OutX.inl ((f1.l.tr l).tr f2.l) (ex2 c93)
    · obtain ⟨g, e, f1, x1⟩ := m2 o6
      rw [e, ob, if_pos rfl, letT_eq, if_neg o6]
      exact ⟨_, rfl, OutX.inl (f1.tr (expect_fr _ _)).l x1.expect⟩
  · rw [if_neg (show ¬ B p = 91 from c91), if_neg c91, s.digit]
    cases ed : dg (B p) with
    | some d =>
      simp only [Option.isNone, Bool.false_eq_true, if_false, d10]
      unfold fX5_number
      obtain ⟨g, w, q, a1, a2, a3, a4, a5⟩ := number5_eq (K := fun (y5 : Int32) (g6 : AH) => if (fX10_isAtDigit g6) = 0 then some (y5, g6) else letT (fX10_fail (2 : Int32) (g6.1 1 2) g6) (fun g8 => some (y5, g8))) t 5 p 0 fuel0 0 h rfl (by have := fuel_big; omega) x s (by decide)
      have a1' : fX5_number_l4 (fun (y5 : Int32) (g6 : AH) => if (fX10_isAtDigit g6) = 0 then some (y5, g6) else letT (fX10_fail (2 : Int32) (g6.1 1 2) g6) (fun g8 => some (y5, g8))) fuel0 0 0 h = _ := a1
      rw [a1', a3.digit]
      rcases a5 with ⟨⟨d', ed'⟩, e5⟩ | ⟨ed', e5⟩
      · rw [ed', e5]
        simp only [Option.isNone, Bool.false_eq_true, if_false, d10]
        rw [letT_eq, ob, letT_eq, a3.2.1]
        have q200 := a3.1
        have x1 := a3.fail (a := 2) (b := q) (by decide) (by decide) (by omega)
        rw [show nI 2 = 2 from rfl] at x1
        have w1 := emit_wd 0 (nI w) (fX10_fail 2 (nI q) g)
        exact ⟨_, rfl, OutX.inl ((a2.tr (fail_fr _ _ _)).l.tr w1.l) (w1.fl x1)⟩
      · rw [ed', e5]
        simp only [Option.isNone, if_true]
        rw [ob, letT_eq]
        have pq := (pN5_lt (w := w) (q := q) t ed e5)
        have c1 := c.fr a2
        obtain ⟨-, c2⟩ := emit_eq (o := 0) (k := w) c1 (by omega) (by decide) a4
        rw [show nI 0 = 0 from rfl] at c2
        have w1 := emit_wd 0 (nI w) g
        refine ⟨_, rfl, OutX.inr (a2.l.tr w1.l) (w1.sd a3) c2 (AskX.keep ask ?_ (by simp))⟩
        rw [w1.2.1 1 (by decide), a2.1 35 (by decide)]
    | none =>
      simp only [Option.isNone, if_true]
      rw [(s.among t)]
      cases ef : fct (B p) with
      | none =>
        rw [if_pos (fct_amg.2 ef), letT_eq]
        exact ⟨_, rfl, OutX.inl (failHere_fr h).l (s.failHere t)⟩
      | some i =>
        obtain ⟨ei, i8⟩ := fct_amg.1 i ef
        have pn := (fct_ok t ef).1
        rw [ei, if_neg (nI_pos (by omega)), letT_eq, letT_eq]
        -- with the flag set to w
        have go : ∀ w : Int32, (w = 0 ∨ w = 1) → (w = 0 → h.1 35 1 = 0 ∧ (h.1 34 2 = nI 114 → i ≠ 2)) → ∃ g, (if w = 0 ∨ w = 1 then letT (sI h 35 1 w) (fun g8 => letT (fX4_emit (1 : Int32) (fX10_among 5 g8) g8) (fun b9 => letT (fX10_step b9.2) (fun g10 => some g10))) else none) = some g ∧ OutX B n h A (.inr (A ++ [(1, i)], p + 1)) g := fun w hw hw0 => by
          have w0 : LFr h (sI h 35 1 w) := ⟨fun c _ h2 _ => sI_ne _ _ _ h2, fun j _ _ _ => by rw [sI_ne _ _ _ (by decide)], by rw [sI_at, upd_ne _ _ (by decide)], rfl⟩
          have s0 : Sd B n p (sI h 35 1 w) := s.add (sI_ne _ _ _ (by decide))
          have c0 : CodX (sI h 35 1 w) A := by
            unfold CodX
            rw [sI_at, upd_ne _ _ (by decide), sI_ne _ _ _ (by decide)]
            exact c
          have k0 : (sI h 35 1 w).1 35 1 = w := by rw [sI_at, upd_at]
          rw [if_pos hw, letT_eq, letT_eq, letT_eq, (s0.among t), ei]
          have w1 := emit_wd 1 (nI i) (sI h 35 1 w)
          obtain ⟨-, c2⟩ := emit_eq (o := 1) (k := i) c0 (by omega) (by decide) (by omega)
          rw [show nI 1 = 1 from rfl] at c2
          generalize (fX4_emit 1 (nI i) (sI h 35 1 w)).2 = g9 at w1 c2
          have f3 := (step_fr g9).1
          have kk : (fX10_step g9).1 35 1 = w := by rw [f3.1 35 (by decide), w1.2.1 1 (by decide)]; exact k0
          refine ⟨_, rfl, OutX.inr ((w0.tr w1.l).tr f3.l) (step_sd t ((x.frL w0).frL w1.l) (w1.sd s0) pn) (c2.fr f3) ⟨by unfold Ask01; rw [kk]; exact hw, fun z => ?_⟩⟩
          rw [kk] at z
          obtain ⟨z1, z2⟩ := hw0 z
          refine ⟨z1, fun z3 j hj q => ?_⟩
          have lq := (List.getElem?_eq_some_iff.mp q).1
          rw [len1] at lq
          have : j = A.length := by omega
          subst this
          rw [lastAt] at q
          injection Option.some.inj q with q1 q2
          exact z2 z3 q2
        have v2 : B p = 118 ↔ i = 2 := by
          have f118 : fct 118 = some 2 := by decide
          constructor
          · intro q
            rw [q, f118] at ef
            exact (Option.some.inj ef).symm
          · intro q
            subst q
            unfold fct at ef
            by_cases h0 : B p < 0
            · rw [if_pos h0] at ef; cases ef
            · rw [if_neg h0] at ef
              obtain ⟨hlt, hb, -⟩ := List.findIdx?_eq_some_iff_getElem.mp ef
              have : (118 : Int32) == B p := hb
              exact (beq_iff_eq.mp this).symm
        by_cases a0 : h.1 35 1 = 0
        · rw [if_pos a0]
          by_cases r0 : h.1 34 2 = 114
          · rw [if_pos r0]
            by_cases b0 : B p = 118
            · rw [if_pos b0]
              exact go 1 (Or.inr rfl) (fun z => absurd z (by decide))
            · rw [if_neg b0]
              exact go 0 (Or.inl rfl) (fun _ => ⟨a0, fun _ z => b0 (v2.mpr z)⟩)
          · rw [if_neg r0]
            exact go 0 (Or.inl rfl) (fun _ => ⟨a0, fun z => absurd z r0⟩)
        · rw [if_neg a0]
          exact go 1 (Or.inr rfl) (fun z => absurd z (by decide))
end ClassLaw
