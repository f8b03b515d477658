/-! ===== the model reads a condition ===== -/
section ModelCond
variable {B : Nat → Int32} {n : Nat}
/-- a jump gets its aim -/
theorem St5.aimed {p o i : Nat} {A : Cd} {W : Wt} {h : AH} (s : St5 B n p A W o h) (hi : i < A.length) (hA : A.length < 220) : St5 B n p (aim A (some i)) W o (sI h 91 i ((1048576 : Int32) * (h.1 91 i / (1048576 : Int32)) + h.1 75 25)) ∧ LMf h (sI h 91 i ((1048576 : Int32) * (h.1 91 i / (1048576 : Int32)) + h.1 75 25)) := by
  obtain ⟨s1, s2, s3, s4, s5, s6⟩ := s
  obtain ⟨op, num, e⟩ : ∃ op num, A[i]? = some (op, num) := ⟨A[i].1, A[i].2, by rw [List.getElem?_eq_getElem hi]⟩
  obtain ⟨v1, v2, v3⟩ := s4.2 i op num e
  have mb : mop op < 16 := by unfold mop; (repeat' split) <;> omega
  have ev : (1048576 : Int32) * (h.1 91 i / (1048576 : Int32)) + h.1 75 25 = nI (1048576 * mop op + A.length) := by
    rw [v1, (mword mb v3).1, s4.1, show (1048576 : Int32) = nI 1048576 from rfl, nI_mul, nI_add]
  rw [ev]
  have f : LMf h (sI h 91 i (nI (1048576 * mop op + A.length))) := LMf.cell (by decide)
  refine ⟨⟨s1.frL f, by rw [sI_ne _ _ _ (by decide)]; exact s2, s3, ⟨?_, fun j x y hj => ?_⟩, ?_, by rw [sI_ne _ _ _ (by decide)]; exact s6⟩, f⟩
  · rw [sI_ne _ _ _ (by decide), aim_len]; exact s4.1
  · rw [sI_at]
    by_cases q : j = i
    · subst q
      rw [aim_at e] at hj
      injection Option.some.inj hj with h1 h2
      rw [upd_at, ← h1, ← h2]
      exact ⟨rfl, v2, by omega⟩
    · rw [aim_ne (fun z => q (Option.some.inj z).symm)] at hj
      rw [upd_ne _ _ q]
      exact s4.2 j x y hj
  · unfold WtM; rw [sI_ne _ _ _ (by decide), sI_ne _ _ _ (by decide)]; exact s5
def rW (r : Option Nat) : Wt := match r with | none => [] | some i => [(12, i)]
def aW (a : Option Nat) : Wt := match a with | none => [] | some i => [(11, i)]
theorem rW_len (r : Option Nat) : (rW r).length ≤ 1 := by
  cases r with
  | none => exact Nat.zero_le _
  | some i => exact Nat.le_refl _
theorem aW_len (r : Option Nat) : (aW r).length ≤ 1 := by
  cases r with
  | none => exact Nat.zero_le _
  | some i => exact Nat.le_refl _
theorem ld_go {p o a i m : Nat} {x1 : Int32} {A : Cd} {W : Wt} {h : AH} (s : St5 B n p A (W ++ [(a, i)]) o h) (hW : W.length < 220) (hA : A.length < 220) (hi : i < A.length) (ha : a = 11 ∨ a = 12 ∧ ¬ x1 = 0) : ∃ g, fX12_lands_l0 x1 (m + 1) h = fX12_lands_l0 x1 m g ∧ fX12_lands x1 h = fX12_lands_l0 x1 fuel0 g ∧ St5 B n p (aim A (some i)) W o g ∧ LMf h g := by
  have wt := waitTop_eq s hW
  obtain ⟨w1, w2⟩ := s.2.2.2.2.1
  obtain ⟨v1, v2, v3⟩ := w2 W.length a i getw
  obtain ⟨s1, f1⟩ := s.aimed hi hA
  obtain ⟨s2, f2⟩ := s1.pop
  have body : ∀ (r : AH → Option AH), (fX12_waitTop h).bind (fun b10 =>
  letT (if ((h.1 75 26) - (1 : Int32)) < 0 ∨ 220 ≤ ((h.1 75 26) - (1 : Int32)).toNatClampNeg then none else
    letT (jrem (h.1 92 ((h.1 75 26) - (1 : Int32)).toNatClampNeg) (1048576 : Int32)) (fun v14 =>
    if v14 < 0 ∨ 220 ≤ v14.toNatClampNeg then none else
    if v14 < 0 ∨ 220 ≤ v14.toNatClampNeg then none else
    letT (sI h 91 v14.toNatClampNeg (((1048576 : Int32) * ((h.1 91 v14.toNatClampNeg) / (1048576 : Int32))) + (h.1 75 25))) (fun g17 =>
    letT (sI g17 75 26 ((g17.1 75 26) - (1 : Int32))) (fun g18 =>
    r g18)))) (fun J12 =>
  if b10 = (11 : Int32) then
    J12
  else
    if x1 = 0 then
      some h
    else
      (fX12_waitTop h).bind (fun b21 =>
      if b21 = (12 : Int32) then
        J12
      else
        some h))) = r (sI (sI h 91 i ((1048576 : Int32) * (h.1 91 i / (1048576 : Int32)) + h.1 75 25)) 75 26 ((sI h 91 i ((1048576 : Int32) * (h.1 91 i / (1048576 : Int32)) + h.1 75 25)).1 75 26 - 1)) := fun r => by
    rw [wt, ob, letT_eq, w1, lenw, nI_sub1 (by omega), Nat.add_sub_cancel, if_neg (gd hW (by decide)), nI_clamp (by omega), v1, (mword (by omega) (by omega)).2, letT_eq, if_neg (gd (show i < 220 by omega) (by decide)), if_neg (gd (show i < 220 by omega) (by decide)), nI_clamp (by omega), letT_eq, letT_eq, ob]
    rcases ha with rfl | ⟨rfl, x0⟩
    · rw [if_pos (show nI 11 = 11 from rfl)]
    · rw [if_neg (show ¬ nI 12 = 11 by decide), if_neg x0, if_pos (show nI 12 = 12 from rfl)]
  refine ⟨_, body (fX12_lands_l0 x1 m), ?_, s2, f1.tr f2⟩
  unfold fX12_lands
  exact body (fX12_lands_l0 x1 fuel0)
theorem ld_stop {p o a b m : Nat} {x1 : Int32} {A : Cd} {W : Wt} {h : AH} (s : St5 B n p A (W ++ [(a, b)]) o h) (hW : W.length < 220) (ha : ¬ a = 11 ∧ (x1 = 0 ∨ ¬ a = 12)) : fX12_lands_l0 x1 (m + 1) h = some h ∧ fX12_lands x1 h = some h := by
  have wt := waitTop_eq s hW
  obtain ⟨w1, w2⟩ := s.2.2.2.2.1
  obtain ⟨v1, v2, v3⟩ := w2 W.length a b getw
  have body : ∀ (J : Option AH), (fX12_waitTop h).bind (fun b10 => letT J (fun J12 => if b10 = (11 : Int32) then J12 else if x1 = 0 then some h else (fX12_waitTop h).bind (fun b21 => if b21 = (12 : Int32) then J12 else some h))) = some h := fun J => by
    rw [wt, ob, letT_eq, if_neg (show ¬ nI a = 11 from ne_lit (j := 11) (by omega) (by decide) ha.1), ob]
    by_cases x0 : x1 = 0
    · rw [if_pos x0]
    · rw [if_neg x0, if_neg (show ¬ nI a = 12 from ne_lit (j := 12) (by omega) (by decide) (ha.2.resolve_left x0))]
  refine ⟨body _, ?_⟩
  unfold fX12_lands
  exact body _
theorem lands0 {p o : Nat} {A : Cd} {V : Wt} {r a : Option Nat} {h : AH} (s : St5 B n p A (V ++ [(13, 0)] ++ rW r ++ aW a) o h) (hV : V.length + 2 < 220) (hA : A.length < 220) (ha : ∀ i, a = some i → i < A.length) : ∃ g, fX12_lands 0 h = some g ∧ St5 B n p (aim A a) (V ++ [(13, 0)] ++ rW r) o g ∧ LMf h g := by
  have stop : ∀ {A2 : Cd} {h2 : AH} (_ : St5 B n p A2 (V ++ [(13, 0)] ++ rW r) o h2) (m : Nat), fX12_lands_l0 0 (m + 1) h2 = some h2 ∧ fX12_lands 0 h2 = some h2 := fun {A2 h2} s2 m => by
    cases r with
    | none =>
      rw [show V ++ [(13, 0)] ++ rW none = V ++ [(13, 0)] from List.append_nil _] at s2
      exact ld_stop s2 (by omega) ⟨by decide, Or.inl rfl⟩
    | some j => exact ld_stop (W := V ++ [(13, 0)]) (a := 12) (b := j) s2 (by rw [lenw]; omega) ⟨by decide, Or.inl rfl⟩
  cases a with
  | none =>
    rw [show V ++ [(13, 0)] ++ rW r ++ aW none = V ++ [(13, 0)] ++ rW r from List.append_nil _] at s
    exact ⟨h, (stop s 0).2, s, .rf⟩
  | some i =>
    have lr := rW_len r
    obtain ⟨g, -, e, s1, f1⟩ := ld_go (m := 0) (x1 := 0) (W := V ++ [(13, 0)] ++ rW r) (a := 11) (i := i) s (by rw [List.length_append, lenw]; omega) hA (ha i rfl) (Or.inl rfl)
    obtain ⟨k, hk⟩ : ∃ k, fuel0 = k + 1 := ⟨fuel0 - 1, by have := fuel_big; omega⟩
    rw [hk] at e
    rw [e, (stop s1 k).1]
    exact ⟨g, rfl, s1, f1⟩
theorem lands1 {p o : Nat} {A : Cd} {V : Wt} {r a : Option Nat} {h : AH} (s : St5 B n p A (V ++ [(13, 0)] ++ rW r ++ aW a) o h) (hV : V.length + 2 < 220) (hA : A.length < 220) (ha : ∀ i, a = some i → i < A.length) (hr : ∀ i, r = some i → i < A.length) : ∃ g, fX12_lands 1 h = some g ∧ St5 B n p (aim (aim A a) r) (V ++ [(13, 0)]) o g ∧ LMf h g := by
  have f2 := fuel_big
  -- from the outer one on
  have outer : ∀ {A2 : Cd} {h2 : AH} (_ : St5 B n p A2 (V ++ [(13, 0)] ++ rW r) o h2) (_ : A2.length = A.length) (m : Nat), ∃ g, fX12_lands_l0 1 (m + 2) h2 = some g ∧ fX12_lands 1 h2 = some g ∧ St5 B n p (aim A2 r) (V ++ [(13, 0)]) o g ∧ LMf h2 g := fun {A2 h2} s2 l2 m => by
    cases r with
    | none =>
      rw [show V ++ [(13, 0)] ++ rW none = V ++ [(13, 0)] from List.append_nil _] at s2
      obtain ⟨x1, x2⟩ := ld_stop (x1 := 1) (m := m + 1) s2 (by omega) ⟨by decide, Or.inr (by decide)⟩
      exact ⟨h2, x1, x2, s2, .rf⟩
    | some j =>
      obtain ⟨g, e1, e2, s1, f1⟩ := ld_go (m := m + 1) (x1 := 1) (W := V ++ [(13, 0)]) (a := 12) (i := j) s2 (by rw [lenw]; omega) (by omega) (by rw [l2]; exact hr j rfl) (Or.inr ⟨rfl, d10'⟩)
      obtain ⟨k, hk⟩ : ∃ k, fuel0 = k + 1 := ⟨fuel0 - 1, by omega⟩
      rw [hk] at e2
      refine ⟨g, ?_, ?_, s1, f1⟩
      · rw [e1, (ld_stop (m := m) s1 (by omega) ⟨by decide, Or.inr (by decide)⟩).1]
      · rw [e2, (ld_stop (m := k) s1 (by omega) ⟨by decide, Or.inr (by decide)⟩).1]
  cases a with
  | none =>
    rw [show V ++ [(13, 0)] ++ rW r ++ aW none = V ++ [(13, 0)] ++ rW r from List.append_nil _] at s
    obtain ⟨g, -, e, s1, f1⟩ := outer s rfl 0
    exact ⟨g, e, s1, f1⟩
  | some i =>
    have lr := rW_len r
    obtain ⟨g, -, e, s1, f1⟩ := ld_go (m := 0) (x1 := 1) (W := V ++ [(13, 0)] ++ rW r) (a := 11) (i := i) s (by rw [List.length_append, lenw]; omega) hA (ha i rfl) (Or.inl rfl)
    obtain ⟨k, hk⟩ : ∃ k, fuel0 = k + 2 := ⟨fuel0 - 2, by omega⟩
    obtain ⟨g2, e2, -, s2, f2⟩ := outer s1 (aim_len _ _) k
    rw [hk] at e
    exact ⟨g2, by rw [e]; exact e2, s2, f1.tr f2⟩
theorem jumps_eq {p o j op : Nat} {A : Cd} {W : Wt} {h : AH} (s : St5 B n p A W o h) (hp : p < n) (hW : W.length < 220) (hA : A.length < 220) (hj : j < 15) (ho : op < 13) (e : j = mop op) : ∃ g, fX12_jumps (nI j) h = some g ∧ St5 B n (p + 1) (A ++ [(op, 0)]) (W ++ [(j, A.length)]) o g ∧ LMf h g := by
  unfold fX12_jumps
  obtain ⟨s2, f2⟩ := s.push (a := j) (b := A.length) hj (by omega)
  have e26 : h.1 75 26 = nI W.length := s.2.2.2.2.1.1
  have e26' : (sI h 92 W.length (nI (1048576 * j + A.length))).1 75 26 = nI W.length := by rw [sI_ne _ _ _ (by decide)]; exact e26
  rw [e26, if_neg (gd hW (by decide)), nI_clamp (by omega), s.2.2.2.1.1, show (1048576 : Int32) = nI 1048576 from rfl, nI_mul, nI_add, letT_eq, letT_eq, e26', nI_1]
  generalize sI (sI h 92 W.length (nI (1048576 * j + A.length))) 75 26 (nI (W.length + 1)) = g2 at s2 f2
  obtain ⟨g3, e3, s3, f3, -⟩ := notes_eq (op := op) (k := 0) (m := j) s2 hA ho (by decide) e
  rw [show (0 : Int32) = nI 0 from rfl, e3, ob, letT_eq, s3.2.1, nI_1]
  exact ⟨_, rfl, s3.place (q := p + 1) (by omega), (f2.tr f3).tr (LMf.at (by decide))⟩
/-- a piece ends -/
theorem ep_l0 (h : AH) : fX12_endsPiece h = fX12_endsPiece_l0 (fuel0 + 1) h := rfl
theorem ep_go {p o k : Nat} {A : Cd} {W : Wt} {h : AH} (s : St5 B n p A (W ++ [(10, 0)]) (o + 1) h) (hW : W.length < 220) (hA : A.length < 220) (ho : o < 10) : ∃ g, fX12_endsPiece_l0 (k + 1) h = fX12_endsPiece_l0 k g ∧ St5 B n p (A ++ [(2, 0)]) W o g ∧ LMf h g := by
  have wt := waitTop_eq s hW
  have un : fX12_endsPiece_l0 (k + 1) h = fX12_endsPiece_l0b (fX12_endsPiece_l0 k) h := rfl
  rw [un]
  unfold fX12_endsPiece_l0b
  obtain ⟨g1, e1, s1, f1, -⟩ := notes_eq (op := 2) (k := 0) (m := 10) s hA (by decide) (by decide) rfl
  have e1' : fX12_notes (10 : Int32) (0 : Int32) h = some g1 := e1
  rw [wt, ob, if_pos (show nI 10 = 10 from rfl), e1', ob, letT_eq, letT_eq]
  obtain ⟨s2, f2⟩ := s1.pop
  generalize sI g1 75 26 (g1.1 75 26 - 1) = g2 at s2 f2
  rw [s2.2.2.2.2.2, nI_sub1 (by omega), Nat.add_sub_cancel]
  exact ⟨_, rfl, s2.opn, (f1.tr f2).tr (LMf.at (by decide))⟩
theorem ep_stop {p o k a b : Nat} {A : Cd} {W : Wt} {h : AH} (s : St5 B n p A (W ++ [(a, b)]) o h) (hW : W.length < 220) (ha : ¬ a = 10) : fX12_endsPiece_l0 (k + 1) h = some h := by
  have wt := waitTop_eq s hW
  have v2 := (s.2.2.2.2.1.2 W.length a b getw).2.1
  have un : fX12_endsPiece_l0 (k + 1) h = fX12_endsPiece_l0b (fX12_endsPiece_l0 k) h := rfl
  rw [un]
  unfold fX12_endsPiece_l0b
  rw [wt, ob, if_neg (show ¬ nI a = 10 from ne_lit (j := 10) (by omega) (by decide) ha)]
def pCmp (B : Nat → Int32) : Pr := fun o p A => match pSumD B 8 o p A with
    | .inl f => .inl f
    | .inr (A1, q) => match cmpI (B q) with
      | none => .inl (1000 + q)
      | some i => match pSumD B 8 o (q + 1) A1 with
        | .inl f => .inl f
        | .inr (A2, r) => .inr (A2 ++ [(5 + i, 0)], r)
theorem compared_eq {o p : Nat} {A : Cd} {W : Wt} {h : AH} (t : Txt B n) (s : St5 B n p A W o h) (ho : o ≤ 6) (tW : topOk W) (hW : W.length ≤ p) (hA : A.length ≤ p) :
    (∀ f, pCmp B o p A = .inl f → FtM h f (fX12_readsCompared h)) ∧ ∀ A' q, pCmp B o p A = .inr (A', q) → ∃ g, fX12_readsCompared h = (fX12_endsPiece g).bind (fun b15 => some ((1 : Int32), b15)) ∧ LMf h g ∧ St5 B n q A' W o g ∧ A'.length ≤ q := by
  have n200 := t.1
  unfold fX12_readsCompared pCmp
  obtain ⟨i1, i2⟩ := readsSum_eq t s ho tW hW hA
  cases er : pSumD B 8 o p A with
  | inl f0 =>
    obtain ⟨g, a1, a2, a3⟩ := i1 f0 er
    rw [a1, ob, if_pos rfl]
    refine ⟨fun f z => ?_, fun A' q z => (by cases z)⟩
    rw [← Sum.inl.inj z]
    exact ⟨g, rfl, a2, a3⟩
  | inr Aq =>
    obtain ⟨A1, q1⟩ := Aq
    obtain ⟨b1, b2, b3, b4, b5⟩ := pSumD_gd t 8 _ _ _ _ _ er
    obtain ⟨g, a1, a2, a3⟩ := i2 A1 q1 er
    have jj : ∀ (X : Int32 → Option (Int32 × AH)), letT X (fun J7 => if B q1 = (60 : Int32) then J7 (7 : Int32) else if B q1 = (62 : Int32) then J7 (8 : Int32) else if B q1 = (61 : Int32) then J7 (9 : Int32) else J7 (-1 : Int32)) = X (match cmpI (B q1) with | none => (-1 : Int32) | some i => nI (i + 2)) := fun X => by
      rw [letT_eq]
      unfold cmpI
      by_cases c1 : B q1 = 60
      · rw [if_pos c1, if_pos c1]; rfl
      rw [if_neg c1, if_neg c1]
      by_cases c2 : B q1 = 62
      · rw [if_pos c2, if_pos c2]; rfl
      rw [if_neg c2, if_neg c2]
      by_cases c3 : B q1 = 61
      · rw [if_pos c3, if_pos c3]; rfl
      rw [if_neg c3, if_neg c3]
    rw [a1, ob, if_neg d10']
    simp only [here_eq t a3.1 a3.2.1 a3.2.2.1, ob]
    rw [jj]
    cases ec : cmpI (B q1) with
    | none =>
      rw [if_pos rfl]
      refine ⟨fun f z => ?_, fun A' q z => (by cases z)⟩
      rw [← Sum.inl.inj z]
      exact (ft_at (a := 1) a3.2.1).tr a2
    | some i =>
      obtain ⟨qn, i5, i7⟩ := cmp_in t ec
      dsimp only
      rw [if_neg (fun q => nI_pos (n := i + 2) (by omega) (by rw [q]; decide)), letT_eq, a3.2.1, nI_1]
      have s2 := a3.place (q := q1 + 1) (by omega)
      have f2 : LMf g (sI g 75 11 (nI (q1 + 1))) := LMf.at (by decide)
      generalize sI g 75 11 (nI (q1 + 1)) = g2 at s2 f2
      obtain ⟨j1, j2⟩ := readsSum_eq t s2 ho tW (by omega) (by omega)
      cases er2 : pSumD B 8 o (q1 + 1) A1 with
      | inl f0 =>
        obtain ⟨g3, c1, c2, c3⟩ := j1 f0 er2
        rw [c1, ob, if_pos rfl]
        refine ⟨fun f z => ?_, fun A' q z => (by cases z)⟩
        rw [← Sum.inl.inj z]
        exact ⟨g3, rfl, (a2.tr f2).tr c2, c3⟩
      | inr Aq =>
        obtain ⟨A2, r⟩ := Aq
        obtain ⟨d1, d2, d3, d4, d5⟩ := pSumD_gd t 8 _ _ _ _ _ er2
        obtain ⟨g3, c1, c2, c3⟩ := j2 A2 r er2
        rw [c1, ob, if_neg d10']
        obtain ⟨g4, e4, s4, f4, -⟩ := notes_eq (op := 5 + i) (k := 0) (m := i + 2) c3 (by omega) (by omega) (by decide) (by unfold mop; rw [if_neg (by omega), if_neg (by omega), if_neg (by omega), if_neg (by omega), if_neg (by omega)]; omega)
        have e4' : fX12_notes (nI (i + 2)) (0 : Int32) g3 = some g4 := e4
        rw [e4', ob]
        refine ⟨fun f z => (by cases z), fun A' q z => ?_⟩
        injection Sum.inr.inj z with z1 z2
        subst z1 z2
        exact ⟨g4, rfl, ((a2.tr f2).tr c2).tr f4, s4, by rw [len1]; omega⟩
end ModelCond
