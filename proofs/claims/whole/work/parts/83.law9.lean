/-! ===== the class reads an E ===== -/
theorem beq_no {c x : Int32} (h : ¬ c = x) : (x == c) = false := by
  rw [beq_eq_false_iff_ne]
  exact fun q => h q.symm
theorem mul_amg {c : Int32} : (∀ i, mulI c = some i → ¬ amg (bytS.getD 3 []) c < 0 ∧ amg (bytS.getD 1 []) c = nI i) ∧ (mulI c = none → amg (bytS.getD 3 []) c < 0) := by
  unfold mulI
  by_cases c1 : c = 42
  · rw [if_pos c1, c1]
    exact ⟨fun i q => by rw [← Option.some.inj q]; decide, fun q => by cases q⟩
  · rw [if_neg c1]
    by_cases c2 : c = 47
    · rw [if_pos c2, c2]
      exact ⟨fun i q => by rw [← Option.some.inj q]; decide, fun q => by cases q⟩
    · rw [if_neg c2]
      by_cases c3 : c = 37
      · rw [if_pos c3, c3]
        exact ⟨fun i q => by rw [← Option.some.inj q]; decide, fun q => by cases q⟩
      · rw [if_neg c3]
        refine ⟨fun i q => (by cases q), fun _ => amg_lt.2 (Or.inr ?_)⟩
        show [42, 47, 37].findIdx? (fun b => b == c) = none
        simp [List.findIdx?_cons, beq_no c1, beq_no c2, beq_no c3]
theorem add_amg {c : Int32} : (∀ i, addI c = some i → ¬ amg (bytS.getD 4 []) c < 0 ∧ amg (bytS.getD 1 []) c = nI i) ∧ (addI c = none → amg (bytS.getD 4 []) c < 0) := by
  unfold addI
  by_cases c1 : c = 43
  · rw [if_pos c1, c1]
    exact ⟨fun i q => by rw [← Option.some.inj q]; decide, fun q => by cases q⟩
  · rw [if_neg c1]
    by_cases c2 : c = 45
    · rw [if_pos c2, c2]
      exact ⟨fun i q => by rw [← Option.some.inj q]; decide, fun q => by cases q⟩
    · rw [if_neg c2]
      refine ⟨fun i q => (by cases q), fun _ => amg_lt.2 (Or.inr ?_)⟩
      show [43, 45].findIdx? (fun b => b == c) = none
      simp [List.findIdx?_cons, beq_no c1, beq_no c2]
theorem cmp_amg {c : Int32} : (∀ i, cmpI c = some i → ¬ amg (bytS.getD 2 []) c < 0 ∧ amg (bytS.getD 1 []) c = nI i) ∧ (cmpI c = none → amg (bytS.getD 2 []) c < 0) := by
  unfold cmpI
  by_cases c1 : c = 60
  · rw [if_pos c1, c1]
    exact ⟨fun i q => by rw [← Option.some.inj q]; decide, fun q => by cases q⟩
  · rw [if_neg c1]
    by_cases c2 : c = 62
    · rw [if_pos c2, c2]
      exact ⟨fun i q => by rw [← Option.some.inj q]; decide, fun q => by cases q⟩
    · rw [if_neg c2]
      by_cases c3 : c = 61
      · rw [if_pos c3, c3]
        exact ⟨fun i q => by rw [← Option.some.inj q]; decide, fun q => by cases q⟩
      · rw [if_neg c3]
        refine ⟨fun i q => (by cases q), fun _ => amg_lt.2 (Or.inr ?_)⟩
        show [60, 62, 61].findIdx? (fun b => b == c) = none
        simp [List.findIdx?_cons, beq_no c1, beq_no c2, beq_no c3]
theorem AskX.tr {h g k : AH} {A A' A'' : Cd} (l : LFr h g) (a : AskX h g A A') (b : AskX g k A' A'') (hl : A.length ≤ A'.length) (pre : ∀ i, i < A'.length → A''[i]? = A'[i]?) : AskX h k A A'' := by
  refine ⟨b.1, fun z => ?_⟩
  obtain ⟨z1, z2⟩ := b.2 z
  obtain ⟨z3, z4⟩ := a.2 z1
  refine ⟨z3, fun z5 i hi q => ?_⟩
  by_cases lt : i < A'.length
  · rw [pre i lt] at q
    exact z4 z5 i hi q
  · exact z2 (by rw [l.1 34 (by decide) (by decide) (by decide)]; exact z5) i (by omega) q
theorem AskX.rf {h : AH} {A : Cd} (a : Ask01 h) : AskX h h A A := ⟨a, fun z => ⟨z, fun _ i hi q => by
  have := (List.getElem?_eq_some_iff.mp q).1
  omega⟩⟩
theorem AskX.eq {h g : AH} {A : Cd} (a : Ask01 h) (e : g.1 35 1 = h.1 35 1) : AskX h g A A := ⟨by unfold Ask01; rw [e]; exact a, fun z => ⟨by rw [← e]; exact z, fun _ i hi q => by
  have := (List.getElem?_eq_some_iff.mp q).1
  omega⟩⟩
def ixo (S : Option Nat) : Int32 := S.elim (-1) (fun i => nI (5 + i))
noncomputable def kE (rf : Int32 → AH → Option AH) (o x2 x3 : Int32) (n2 : Nat) : AH → Option AH := fun (g13 : AH) =>
  letT (fun (g14 : AH) => if (fX10_among 4 g14) < 0 then some g14 else letT ((5 : Int32) + (fX10_among 1 g14)) (fun v17 => letT (fX10_step g14) (fun g18 => fX5_readSum_l4 rf o n2 v17 (x3 + 1) g18))) (fun J15 => if x2 < 0 then J15 g13 else letT (fX4_emit x2 (0 : Int32) g13) (fun b20 => J15 b20.2))
section ClassSum
variable {B : Nat → Int32} {n : Nat}
theorem l4_fl {rf : Int32 → AH → Option AH} {o x2 x3 : Int32} {m f : Nat} {h : AH} (x : Fl f h) (hm : 0 < m) : fX5_readSum_l4 rf o m x2 x3 h = some h := by
  obtain ⟨m, rfl⟩ : ∃ m', m = m' + 1 := ⟨m - 1, by omega⟩
  show fX5_readSum_l4b rf (fX5_readSum_l4 rf o m) o x2 x3 h = _
  unfold fX5_readSum_l4b
  rw [x.sound, if_pos rfl, ite_self]
theorem kE_fl {rf : Int32 → AH → Option AH} {o x2 x3 : Int32} {m f : Nat} {h : AH} (x : Fl f h) (hm : 0 < m) : ∃ g, kE rf o x2 x3 m h = some g ∧ LFr h g ∧ Fl f g := by
  have J : ∀ g14, Fl f g14 → ∃ g, (if (fX10_among 4 g14) < 0 then some g14 else letT ((5 : Int32) + (fX10_among 1 g14)) (fun v17 => letT (fX10_step g14) (fun g18 => fX5_readSum_l4 rf o m v17 (x3 + 1) g18))) = some g ∧ LFr g14 g ∧ Fl f g := fun g14 x14 => by
    split
    · exact ⟨g14, rfl, .rf, x14⟩
    · rw [letT_eq, letT_eq, l4_fl x14.step hm]
      exact ⟨_, rfl, (step_fr g14).1.l, x14.step⟩
  unfold kE
  rw [letT_eq]
  split
  · exact J h x
  · rw [letT_eq]
    have w := emit_wd x2 0 h
    obtain ⟨g, e, l, y⟩ := J _ (w.fl x)
    exact ⟨g, e, w.l.tr l, y⟩
theorem l29_fl {rf : Int32 → AH → Option AH} {K : AH → Option AH} {o x2 x3 x4 : Int32} {m f : Nat} {h : AH} (x : Fl f h) (hm : 0 < m) : fX5_readSum_l29 rf K o x2 x3 m x4 h = K h := by
  obtain ⟨m, rfl⟩ : ∃ m', m = m' + 1 := ⟨m - 1, by omega⟩
  show fX5_readSum_l29b rf (fX5_readSum_l29 rf K o x2 x3 m) K o x2 x3 x4 h = _
  unfold fX5_readSum_l29b
  rw [x.sound, if_pos rfl, ite_self]
theorem emitS {S : Option Nat} {h : AH} {A : Cd} {p : Nat} {J : AH → Option AH} (c : CodX h A) (a : Ask01 h) (hl : A.length + (sOp S).length ≤ p) (hp : p ≤ 200) (hS : ∀ i, S = some i → i < 8) : ∃ g, (if ixo S < 0 then J h else letT (fX4_emit (ixo S) (0 : Int32) h) (fun b20 => J b20.2)) = J g ∧ Wd5 h g ∧ CodX g (A ++ sOp S) ∧ AskX h g A (A ++ sOp S) := by
  cases S with
  | none =>
    rw [if_pos (show ixo none < 0 by decide)]
    have : A ++ sOp none = A := List.append_nil A
    rw [this]
    exact ⟨h, rfl, ⟨fun _ _ _ => rfl, fun _ _ => rfl, rfl⟩, c, AskX.rf a⟩
  | some i =>
    have i8 := hS i rfl
    have l1 : (sOp (some i)).length = 1 := rfl
    rw [if_neg (show ¬ ixo (some i) < 0 from nI_pos (show 5 + i < 2 ^ 31 by omega)), letT_eq]
    have w := emit_wd (nI (5 + i)) (nI 0) h
    obtain ⟨-, c2⟩ := emit_eq (o := 5 + i) (k := 0) c (by omega) (by omega) (by decide)
    exact ⟨_, rfl, w, c2, AskX.keep a (w.2.1 1 (by decide)) (by simp)⟩
theorem l29_eq {pf : Pr} {rf : Int32 → AH → Option AH} {lo o : Nat} (t : Txt B n) (gf : GdP n pf) (SS : SimX B n pf rf lo) (hlo : lo ≤ o) (ho : o ≤ 6) : ∀ (k p : Nat) (A : Cd) (S : Option Nat) (x3 x4 n1 n2 : Nat) (h : AH), n < k + p → x4 < p → 2 * x3 + 1 ≤ p → 1000 < n1 + x4 → 1000 < n2 + x3 → Tx B n h → Sd B n p h → CodX h A → Ask01 h → A.length + (sOp S).length ≤ p → (∀ i, S = some i → i < 8) →
    ∃ g, fX5_readSum_l29 rf (kE rf (nI o) (ixo S) (nI x3) n2) (nI o) (ixo S) (nI x3) n1 (nI x4) h = some g ∧ OutX B n h A (pELp B pf o k p A S) g := by
  have n200 := t.1
  intro k
  induction k with
  | zero =>
    intro p A S x3 x4 n1 n2 h h1 h2 h3 h4 h5 x s
    have := s.1
    omega
  | succ k ih =>
    intro p A S x3 x4 n1 n2 h h1 h2 h3 h4 h5 x s c a hl hS
    have pn := s.1
    obtain ⟨n1, rfl⟩ : ∃ m', n1 = m' + 1 := ⟨n1 - 1, by omega⟩
    have un : fX5_readSum_l29 rf (kE rf (nI o) (ixo S) (nI x3) n2) (nI o) (ixo S) (nI x3) (n1 + 1) (nI x4) h = fX5_readSum_l29b rf (fX5_readSum_l29 rf (kE rf (nI o) (ixo S) (nI x3) n2) (nI o) (ixo S) (nI x3) n1) (kE rf (nI o) (ixo S) (nI x3) n2) (nI o) (ixo S) (nI x3) (nI x4) h := rfl
    rw [un]
    unfold fX5_readSum_l29b pELp
    rw [if_pos (show nI x4 < 200 from nI_lt (b := 200) (by omega) (by decide)), s.sound, if_neg d10', (s.among t), (s.among t)]
    cases em : mulI (B p) with
    | some i =>
      obtain ⟨m1, m2⟩ := mul_amg.1 i em
      obtain ⟨pn', i2, i4⟩ := mul_in t em
      have f1 := (step_fr h).1
      rw [if_neg m1, letT_eq, letT_eq, m2, show (5 : Int32) = nI 5 from rfl, nI_add, nI_1]
      obtain ⟨g, e, l, o1, o2⟩ := SS o (p + 1) A (fX10_step h) hlo ho (x.fr f1) (step_sd t x s pn') (c.fr f1) (by unfold Ask01; rw [f1.1 35 (by decide)]; exact a) (by omega)
      rw [e, ob, letT_eq]
      cases er : pf o (p + 1) A with
      | inl f0 =>
        have x1 := o1 f0 er
        have w := emit_wd (nI (5 + i)) 0 g
        rw [l29_fl (w.fl x1) (by omega)]
        obtain ⟨g', e', l', x'⟩ := kE_fl (rf := rf) (o := nI o) (x2 := ixo S) (x3 := nI x3) (m := n2) (w.fl x1) (by omega)
        exact ⟨g', e', OutX.inl (((f1.l.tr l).tr w.l).tr l') x'⟩
      | inr Aq =>
        obtain ⟨A', q⟩ := Aq
        obtain ⟨g1, g2, g3, g4, g5⟩ := gf _ _ _ _ _ er
        obtain ⟨s2, c2, a2⟩ := o2 A' q er
        have w := emit_wd (nI (5 + i)) 0 g
        obtain ⟨-, c3⟩ := emit_eq (o := 5 + i) (k := 0) c2 (by omega) (by omega) (by decide)
        rw [show nI 0 = 0 from rfl] at c3
        have a3 : AskX h (fX4_emit (nI (5 + i)) 0 g).2 A (A' ++ [(5 + i, 0)]) := by
          have a1 : AskX h (fX10_step h) A A := AskX.eq a (by rw [f1.1 35 (by decide)])
          have a12 := a1.tr f1.l a2 (Nat.le_refl _) (fun i hi => g5 i hi)
          exact a12.tr (f1.l.tr l) (AskX.keep a2.1 (w.2.1 1 (by decide)) (by simp)) (by omega) (fun i hi => get1 hi)
        obtain ⟨g', e', l', p1, p2⟩ := ih q (A' ++ [(5 + i, 0)]) S x3 (x4 + 1) n1 n2 _ (by omega) (by omega) (by omega) (by omega) h5 ((x.fr f1).frL (l.tr w.l)) (w.sd s2) c3 a3.1 (by rw [len1]; omega) hS
        refine ⟨g', e', ((f1.l.tr l).tr w.l).tr l', p1, fun A'' q' z => ?_⟩
        obtain ⟨y1, y2, y3⟩ := p2 A'' q' z
        obtain ⟨-, -, u3, -, u5⟩ := pELp_gd t gf k q _ S z g2
        rw [len1] at u3
        exact ⟨y1, y2, a3.tr ((f1.l.tr l).tr w.l) y3 (by rw [len1]; omega) u5⟩
    | none =>
      rw [if_pos (mul_amg.2 em)]
      dsimp only
      unfold kE
      rw [letT_eq]
      obtain ⟨g, e, w, c1, a1⟩ := emitS (J := fun (g14 : AH) => if (fX10_among 4 g14) < 0 then some g14 else letT ((5 : Int32) + (fX10_among 1 g14)) (fun v17 => letT (fX10_step g14) (fun g18 => fX5_readSum_l4 rf (nI o) n2 v17 (nI x3 + 1) g18))) c a hl (by omega) hS
      rw [e]
      have s1 := w.sd s
      have x1 := x.frL w.l
      rw [(s1.among t), (s1.among t)]
      cases ea : addI (B p) with
      | some i =>
        obtain ⟨m1, m2⟩ := add_amg.1 i ea
        obtain ⟨pn', i1⟩ := add_in t ea
        have f1 := (step_fr g).1
        rw [if_neg m1, letT_eq, letT_eq, m2, show (5 : Int32) = nI 5 from rfl, nI_add, nI_1]
        obtain ⟨n2, rfl⟩ : ∃ m', n2 = m' + 1 := ⟨n2 - 1, by omega⟩
        show ∃ g', fX5_readSum_l4b rf (fX5_readSum_l4 rf (nI o) n2) (nI o) (nI (5 + i)) (nI (x3 + 1)) (fX10_step g) = some g' ∧ _
        unfold fX5_readSum_l4b
        have s2 := step_sd t x1 s1 pn'
        rw [if_pos (show nI (x3 + 1) < 200 from nI_lt (b := 200) (by omega) (by decide)), s2.sound, if_neg d10']
        have len : (A ++ sOp S).length = A.length + (sOp S).length := List.length_append
        have a2 : AskX h (fX10_step g) A (A ++ sOp S) := a1.tr w.l (AskX.eq a1.1 (by rw [f1.1 35 (by decide)])) (by omega) (fun _ _ => rfl)
        obtain ⟨g3, e3, l3, o1, o2⟩ := SS o (p + 1) (A ++ sOp S) (fX10_step g) hlo ho (x1.fr f1) s2 (c1.fr f1) a2.1 (by omega)
        rw [e3, ob]
        show ∃ g', fX5_readSum_l29 rf (kE rf (nI o) (ixo (some i)) (nI (x3 + 1)) n2) (nI o) (ixo (some i)) (nI (x3 + 1)) fuel0 (nI 0) g3 = some g' ∧ _
        cases er : pf o (p + 1) (A ++ sOp S) with
        | inl f0 =>
          have y1 := o1 f0 er
          rw [l29_fl y1 (by have := fuel_big; omega)]
          obtain ⟨g', e', l', x'⟩ := kE_fl (rf := rf) (o := nI o) (x2 := ixo (some i)) (x3 := nI (x3 + 1)) (m := n2) y1 (by omega)
          exact ⟨g', e', OutX.inl (((w.l.tr f1.l).tr l3).tr l') x'⟩
        | inr Aq =>
          obtain ⟨A', q⟩ := Aq
          obtain ⟨g1, g2, g3', g4, g5⟩ := gf _ _ _ _ _ er
          obtain ⟨s4, c4, a4⟩ := o2 A' q er
          have a5 : AskX h g3 A A' := a2.tr (w.l.tr f1.l) a4 (by omega) g5
          have l1 : (sOp (some i)).length = 1 := rfl
          obtain ⟨g', e', l', p1, p2⟩ := ih q A' (some i) (x3 + 1) 0 fuel0 n2 g3 (by omega) (by omega) (by omega) (by have := fuel_big; omega) (by omega) ((x1.fr f1).frL l3) s4 c4 a4.1 (by omega) (fun j z => by rw [← Option.some.inj z]; omega)
          refine ⟨g', e', ((w.l.tr f1.l).tr l3).tr l', p1, fun A'' q' z => ?_⟩
          obtain ⟨y1, y2, y3⟩ := p2 A'' q' z
          obtain ⟨-, -, u3, -, u5⟩ := pELp_gd t gf k q _ _ z g2
          exact ⟨y1, y2, a5.tr ((w.l.tr f1.l).tr l3) y3 (by omega) u5⟩
      | none =>
        rw [if_pos (add_amg.2 ea)]
        exact ⟨g, rfl, OutX.inr w.l s1 c1 a1⟩
theorem readSum_sim {pf : Pr} {rf : Int32 → AH → Option AH} {lo : Nat} (t : Txt B n) (gf : GdP n pf) (SS : SimX B n pf rf lo) : SimX B n (pSum B pf) (fX5_readSum rf) lo := by
  intro o p A h hlo ho x s c a hl
  have n200 := t.1
  have pn := s.1
  unfold fX5_readSum pSum
  obtain ⟨m, hm⟩ := fuel_plus 1 (by decide)
  have mb := fuel_big
  rw [hm]
  show ∃ g, fX5_readSum_l4b rf (fX5_readSum_l4 rf (nI o) m) (nI o) (-1) 0 h = some g ∧ _
  unfold fX5_readSum_l4b
  rw [if_pos (by decide), s.sound, if_neg d10']
  obtain ⟨g3, e3, l3, o1, o2⟩ := SS o p A h hlo ho x s c a hl
  rw [e3, ob]
  show ∃ g', fX5_readSum_l29 rf (kE rf (nI o) (ixo none) (nI 0) m) (nI o) (ixo none) (nI 0) fuel0 (nI 0) g3 = some g' ∧ _
  cases er : pf o p A with
  | inl f0 =>
    have y1 := o1 f0 er
    rw [l29_fl y1 (by omega)]
    obtain ⟨g', e', l', x'⟩ := kE_fl (rf := rf) (o := nI o) (x2 := ixo none) (x3 := nI 0) (m := m) y1 (by omega)
    exact ⟨g', e', OutX.inl (l3.tr l') x'⟩
  | inr Aq =>
    obtain ⟨A', q⟩ := Aq
    obtain ⟨g1, g2, g3', g4, g5⟩ := gf _ _ _ _ _ er
    obtain ⟨s4, c4, a4⟩ := o2 A' q er
    have l1 : (sOp none).length = 0 := rfl
    obtain ⟨g', e', l', p1, p2⟩ := l29_eq t gf SS hlo ho 201 q A' none 0 0 fuel0 m g3 (by omega) (by omega) (by omega) (by omega) (by omega) (x.frL l3) s4 c4 a4.1 (by omega) (fun j z => by cases z)
    refine ⟨g', e', l3.tr l', p1, fun A'' q' z => ?_⟩
    obtain ⟨y1, y2, y3⟩ := p2 A'' q' z
    obtain ⟨-, -, u3, -, u5⟩ := pELp_gd t gf 201 q _ _ z g2
    exact ⟨y1, y2, a4.tr l3 y3 (by omega) u5⟩
theorem readSumD_sim (t : Txt B n) : ∀ d, SimX B n (pSumD B d) (fX5_readSumD d) (8 - d) := by
  intro d
  induction d with
  | zero => intro o p A h h1 h2; omega
  | succ d ih =>
    by_cases hd : d < 8
    · refine readSum_sim t (pFac_gd t (pSumD_gd t d)) (readFactor_sim t (pSumD_gd t d) ?_)
      have : 8 - (d + 1) + 1 = 8 - d := by omega
      rw [this]
      exact ih
    · have : 8 - (d + 1) = 0 := by omega
      rw [this]
      refine readSum_sim t (pFac_gd t (pSumD_gd t d)) (readFactor_sim t (pSumD_gd t d) ?_)
      intro o p A h h1 h2
      exact ih o p A h (by omega) h2
theorem readSumD_fl {d f : Nat} {o : Int32} {h : AH} (x : Fl f h) : fX5_readSumD (d + 1) o h = some h := by
  show fX5_readSum (fX5_readFactor (fX5_readSumD d)) o h = some h
  unfold fX5_readSum
  exact l4_fl x (by have := fuel_big; omega)
end ClassSum
