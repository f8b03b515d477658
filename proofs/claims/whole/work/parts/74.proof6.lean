theorem kd_cases (c : Int32) : kd c = if c = 97 then some 0 else if c = 115 then some 1 else if c = 110 then some 2 else if c = 43 then some 3 else if c = 42 then some 4 else none := by
  by_cases c1 : c = 97
  · rw [if_pos c1, c1]; decide
  · by_cases c2 : c = 115
    · rw [if_neg c1, if_pos c2, c2]; decide
    · by_cases c3 : c = 110
      · rw [if_neg c1, if_neg c2, if_pos c3, c3]; decide
      · by_cases c4 : c = 43
        · rw [if_neg c1, if_neg c2, if_neg c3, if_pos c4, c4]; decide
        · by_cases c5 : c = 42
          · rw [if_neg c1, if_neg c2, if_neg c3, if_neg c4, if_pos c5, c5]; decide
          · rw [if_neg c1, if_neg c2, if_neg c3, if_neg c4, if_neg c5]
            unfold kd kdl
            have n : ∀ x : Int32, ¬ c = x → (x == c) = false := fun x hx => by
              rw [beq_eq_false_iff_ne]
              exact fun q => hx q.symm
            simp [List.findIdx?_cons, n 97 c1, n 115 c2, n 110 c3, n 43 c4, n 42 c5]
def MFr (h g : AH) : Prop := (∀ c, c ≠ 75 → c < 83 ∨ 86 < c → g.1 c = h.1 c) ∧ (∀ j, j ≠ 11 → j ≠ 13 → j ≠ 14 → j ≠ 15 → g.1 75 j = h.1 75 j) ∧ g.2 = h.2
theorem MFr.rf {h : AH} : MFr h h := ⟨fun _ _ _ => rfl, fun _ _ _ _ _ => rfl, rfl⟩
theorem MFr.tr {h g k : AH} (a : MFr h g) (b : MFr g k) : MFr h k := ⟨fun c h1 h2 => (b.1 c h1 h2).trans (a.1 c h1 h2), fun j h1 h2 h3 h4 => (b.2.1 j h1 h2 h3 h4).trans (a.2.1 j h1 h2 h3 h4), b.2.2.trans a.2.2⟩
theorem MF1.p {h g : AH} (a : MF1 h g) : MFr h g := ⟨fun c h1 _ => a.1 c h1, fun j h1 h2 h3 _ => a.2.1 j h1 h2 h3, a.2.2⟩
theorem MFr.cell {h : AH} {c j : Nat} {v : Int32} (hc : 83 ≤ c ∧ c ≤ 86) : MFr h (sI h c j v) := ⟨fun d _ h2 => sI_ne h j v (by omega), fun i _ _ _ _ => by rw [sI_ne h j v (by omega)], rfl⟩
theorem MFr.lines {h : AH} {v : Int32} : MFr h (sI h 75 15 v) := ⟨fun d h1 _ => sI_ne h 15 v h1, fun i _ _ _ h4 => by rw [sI_at, upd_ne _ _ h4], rfl⟩
theorem Tm.frM {B : Nat → Int32} {n : Nat} {h g : AH} (f : MFr h g) (t : Tm B n h) : Tm B n g := by
  unfold Tm
  rw [f.2.1 12 (by decide) (by decide) (by decide) (by decide), f.1 82 (by decide) (by decide)]
  exact t
section ModelLine
variable {B : Nat → Int32} {n : Nat}
theorem MF1.r {h g : AH} (f : MF1 h g) : g.1 83 = h.1 83 ∧ g.1 84 = h.1 84 ∧ g.1 85 = h.1 85 ∧ g.1 86 = h.1 86 ∧ g.1 75 15 = h.1 75 15 := ⟨f.1 83 (by decide), f.1 84 (by decide), f.1 85 (by decide), f.1 86 (by decide), f.2.1 15 (by decide) (by decide) (by decide)⟩
theorem two_eq {p j : Nat} {h : AH} (t : Txt B n) (x : Tm B n h) (e : h.1 75 11 = nI p) (hp : p ≤ n) (e15 : h.1 75 15 = nI j) (hj : j < 20) :
    (∀ f, pNum B j 6 p = .inl f → ∃ g, fX12_readsTwoLines h = some (0, g) ∧ MFr h g ∧ g.1 75 13 = -(nI f)) ∧
    ∀ a q, pNum B j 6 p = .inr (a, q) → (¬ B q = nI 44 → ∃ g, fX12_readsTwoLines h = some (0, g) ∧ MFr h g ∧ g.1 75 13 = -(nI (1000 + q))) ∧
      (B q = nI 44 → (∀ f, pNum B j 6 (q + 1) = .inl f → ∃ g, fX12_readsTwoLines h = some (0, g) ∧ MFr h g ∧ g.1 75 13 = -(nI f)) ∧
        ∀ b r, pNum B j 6 (q + 1) = .inr (b, r) → ∃ g, fX12_readsTwoLines h = some (1, g) ∧ MFr h g ∧ g.1 75 11 = nI r ∧ g.1 75 15 = nI j ∧ g.1 83 = h.1 83 ∧ g.1 84 = h.1 84 ∧ g.1 85 = upd (h.1 85) j (nI a) ∧ g.1 86 = upd (h.1 86) j (nI b)) := by
  have gj := gd hj (show 20 ≤ 4000 by decide)
  have cj : (nI j).toNatClampNeg = j := nI_clamp (by omega)
  obtain ⟨b1, b2⟩ := below_eq (lim := j) (flt := 6) t x e hp (by omega)
  rw [show nI 6 = 6 from rfl] at b1 b2
  unfold fX12_readsTwoLines
  rw [e15]
  refine ⟨fun f q => ?_, fun a q z => ?_⟩
  · obtain ⟨g, e1, f1, e2⟩ := b1 f q
    rw [e1, ob, if_pos rfl]
    exact ⟨g, rfl, f1.p, e2⟩
  · obtain ⟨g, e1, f1, e11, e14⟩ := b2 a q z
    obtain ⟨-, -, -, qn⟩ := pNum_ok t z
    obtain ⟨r83, r84, r85, r86, r15⟩ := f1.r
    rw [e1, ob, if_neg d10', r15, e15, if_neg gj, cj, letT_eq, e14]
    have f2 : MFr h (sI g 85 j (nI a)) := f1.p.tr (MFr.cell (by decide))
    have c11 : (sI g 85 j (nI a)).1 75 11 = nI q := by rw [sI_ne _ _ _ (by decide)]; exact e11
    have c15 : (sI g 85 j (nI a)).1 75 15 = nI j := by rw [sI_ne _ _ _ (by decide), r15]; exact e15
    have c83 : (sI g 85 j (nI a)).1 83 = h.1 83 := by rw [sI_ne _ _ _ (by decide)]; exact r83
    have c84 : (sI g 85 j (nI a)).1 84 = h.1 84 := by rw [sI_ne _ _ _ (by decide)]; exact r84
    have c85 : (sI g 85 j (nI a)).1 85 = upd (h.1 85) j (nI a) := by rw [sI_at, r85]
    have c86 : (sI g 85 j (nI a)).1 86 = h.1 86 := by rw [sI_ne _ _ _ (by decide)]; exact r86
    generalize sI g 85 j (nI a) = g5 at f2 c11 c15 c83 c84 c85 c86
    have x2 := x.frM f2
    obtain ⟨t1, t2⟩ := takes_eq (k := 44) t x2 c11 qn
    rw [show nI 44 = 44 from rfl] at t1 t2
    refine ⟨fun ne => ?_, fun eq => ?_⟩
    · rw [t2 ne, ob, if_pos rfl]
      refine ⟨_, rfl, f2.tr (MF1.at (Or.inr (Or.inl rfl))).p, ?_⟩
      rw [sI_at, upd_at]
    · have q1 := t.lit (by decide) eq
      rw [t1 eq, ob, if_neg d10']
      have f3 : MF1 g5 (sI g5 75 11 (nI (q + 1))) := MF1.at (Or.inl rfl)
      have d11 : (sI g5 75 11 (nI (q + 1))).1 75 11 = nI (q + 1) := by rw [sI_at, upd_at]
      obtain ⟨s83, s84, s85, s86, s15⟩ := f3.r
      generalize sI g5 75 11 (nI (q + 1)) = g6 at f3 d11 s83 s84 s85 s86 s15
      dsimp only
      rw [s15, c15]
      obtain ⟨y1, y2⟩ := below_eq (lim := j) (flt := 6) t (x2.fr f3) d11 q1 (by omega)
      rw [show nI 6 = 6 from rfl] at y1 y2
      refine ⟨fun f z => ?_, fun b r z => ?_⟩
      · obtain ⟨g', a1, a2, a3⟩ := y1 f z
        rw [a1, ob, if_pos rfl]
        exact ⟨g', rfl, (f2.tr f3.p).tr a2.p, a3⟩
      · obtain ⟨g', a1, a2, a3, a4⟩ := y2 b r z
        obtain ⟨u83, u84, u85, u86, u15⟩ := a2.r
        rw [a1, ob, if_neg d10', u15, s15, c15, if_neg gj, cj, letT_eq, a4]
        refine ⟨_, rfl, ((f2.tr f3.p).tr a2.p).tr (MFr.cell (by decide)), ?_, ?_, ?_, ?_, ?_, ?_⟩
        · rw [sI_ne _ _ _ (by decide)]; exact a3
        · rw [sI_ne _ _ _ (by decide), u15, s15]; exact c15
        · rw [sI_ne _ _ _ (by decide), u83, s83]; exact c83
        · rw [sI_ne _ _ _ (by decide), u84, s84]; exact c84
        · rw [sI_ne _ _ _ (by decide), u85, s85]; exact c85
        · rw [sI_at, u86, s86, c86]
def RlO (h : AH) (j : Nat) (r : Rs (Ln × Nat)) (o : Option (Int32 × AH)) : Prop := (∀ f, r = .inl f → ∃ g, o = some (0, g) ∧ MFr h g ∧ g.1 75 13 = -(nI f)) ∧ ∀ L q, r = .inr (L, q) → ∃ g, o = some (1, g) ∧ MFr h g ∧ g.1 75 11 = nI q ∧ g.1 75 15 = nI j ∧ g.1 83 = h.1 83 ∧ g.1 84 = upd (h.1 84) j (nI L.2.1) ∧ g.1 85 = upd (h.1 85) j (nI L.2.2.1) ∧ g.1 86 = upd (h.1 86) j (lnS L)
theorem rule_k {p j c k : Nat} {h : AH} (t : Txt B n) (x : Tm B n h) (e : h.1 75 11 = nI p) (e15 : h.1 75 15 = nI j) (hj : j < 20) (hk : kd (B p) = some k) (W : Int32 → Option (Int32 × AH)) (hW : W = fun (w3 : Int32) =>
    if w3 = (-1 : Int32) then
      letT (fX12_wrongAt (1 : Int32) (h.1 75 11) h) (fun b35 =>
      if b35.1 = 0 ∨ b35.1 = 1 then some (b35.1, b35.2) else none)
    else
      letT (sI h 75 11 ((h.1 75 11) + (1 : Int32))) (fun g6 =>
      if (g6.1 75 15) < 0 ∨ 20 ≤ (g6.1 75 15).toNatClampNeg then none else
      letT (sI g6 84 (g6.1 75 15).toNatClampNeg w3) (fun g8 =>
      if (g8.1 75 15) < 0 ∨ 20 ≤ (g8.1 75 15).toNatClampNeg then none else
      letT (sI g8 86 (g8.1 75 15).toNatClampNeg (-2 : Int32)) (fun g10 =>
      if w3 = (3 : Int32) then
        (fX12_readsTwoLines g10).bind (fun b12 =>
        if b12.1 = 0 ∨ b12.1 = 1 then some (b12.1, b12.2) else none)
      else
        if w3 = (4 : Int32) then
          (fX12_readsTwoLines g10).bind (fun b32 =>
          if b32.1 = 0 ∨ b32.1 = 1 then some (b32.1, b32.2) else none)
        else
          if w3 = 0 then
            (fX12_isDigit g10).bind (fun b22 =>
            if b22 = 0 then
              letT (fX12_wrongAt (1 : Int32) (g10.1 75 11) g10) (fun b30 =>
              if b30.1 = 0 ∨ b30.1 = 1 then some (b30.1, b30.2) else none)
            else
              (fX12_here g10).bind (fun b25 =>
              if (g10.1 75 15) < 0 ∨ 20 ≤ (g10.1 75 15).toNatClampNeg then none else
              letT (sI g10 85 (g10.1 75 15).toNatClampNeg (b25 - (48 : Int32))) (fun g28 =>
              letT (sI g28 75 11 ((g28.1 75 11) + (1 : Int32))) (fun g29 =>
              some ((1 : Int32), g29)))))
          else
            (fX12_readsBelow (g10.1 75 15) (6 : Int32) g10).bind (fun b17 =>
            if b17.1 = 0 then
              some ((0 : Int32), b17.2)
            else
              if (b17.2.1 75 15) < 0 ∨ 20 ≤ (b17.2.1 75 15).toNatClampNeg then none else
              letT (sI b17.2 85 (b17.2.1 75 15).toNatClampNeg (b17.2.1 75 14)) (fun g21 =>
              some ((1 : Int32), g21))))))) : RlO h j (pRule B j c p) (W (nI k)) := by
  subst hW
  have gj := gd hj (show 20 ≤ 4000 by decide)
  have cj : (nI j).toNatClampNeg = j := nI_clamp (by omega)
  obtain ⟨-, k5, kpos⟩ := kd_amg.1 k hk
  have pn : p < n := t.inn (fun z => kpos (by rw [z]; decide))
  have km : ¬ nI k = -1 := fun z => nI_pos (n := k) (by omega) (by rw [z]; decide)
  dsimp only
  rw [if_neg km, letT_eq, e, nI_1]
  have q15 : (sI h 75 11 (nI (p + 1))).1 75 15 = nI j := by rw [sI_at, upd_ne _ _ (by decide)]; exact e15
  rw [q15, if_neg gj, cj, letT_eq]
  have q15' : (sI (sI h 75 11 (nI (p + 1))) 84 j (nI k)).1 75 15 = nI j := by rw [sI_ne _ _ _ (by decide)]; exact q15
  rw [q15', if_neg gj, cj, letT_eq]
  have f1 : MFr h (sI (sI (sI h 75 11 (nI (p + 1))) 84 j (nI k)) 86 j (-2)) := ((MF1.at (Or.inl rfl)).p.tr (MFr.cell (by decide))).tr (MFr.cell (by decide))
  have a11 : (sI (sI (sI h 75 11 (nI (p + 1))) 84 j (nI k)) 86 j (-2)).1 75 11 = nI (p + 1) := by rw [sI_ne _ _ _ (by decide), sI_ne _ _ _ (by decide), sI_at, upd_at]
  have a15 : (sI (sI (sI h 75 11 (nI (p + 1))) 84 j (nI k)) 86 j (-2)).1 75 15 = nI j := by rw [sI_ne _ _ _ (by decide)]; exact q15'
  have a83 : (sI (sI (sI h 75 11 (nI (p + 1))) 84 j (nI k)) 86 j (-2)).1 83 = h.1 83 := by rw [sI_ne _ _ _ (by decide), sI_ne _ _ _ (by decide), sI_ne _ _ _ (by decide)]
  have a84 : (sI (sI (sI h 75 11 (nI (p + 1))) 84 j (nI k)) 86 j (-2)).1 84 = upd (h.1 84) j (nI k) := by rw [sI_ne _ _ _ (by decide), sI_at, sI_ne _ _ _ (by decide)]
  have a85 : (sI (sI (sI h 75 11 (nI (p + 1))) 84 j (nI k)) 86 j (-2)).1 85 = h.1 85 := by rw [sI_ne _ _ _ (by decide), sI_ne _ _ _ (by decide), sI_ne _ _ _ (by decide)]
  have a86 : (sI (sI (sI h 75 11 (nI (p + 1))) 84 j (nI k)) 86 j (-2)).1 86 = upd (h.1 86) j (-2) := by rw [sI_at, sI_ne _ _ _ (by decide), sI_ne _ _ _ (by decide)]
  generalize sI (sI (sI h 75 11 (nI (p + 1))) 84 j (nI k)) 86 j (-2) = g at f1 a11 a15 a83 a84 a85 a86
  have x1 := x.frM f1
  have twoO : 3 ≤ k → RlO h j (pRule B j c p) ((fX12_readsTwoLines g).bind (fun b12 => if b12.1 = 0 ∨ b12.1 = 1 then some (b12.1, b12.2) else none)) := fun k3 => by
    obtain ⟨w1, w2⟩ := two_eq t x1 a11 pn a15 hj
    unfold pRule
    rw [hk]
    dsimp only
    rw [if_neg (show ¬ k = 0 by omega)]
    cases e1 : pNum B j 6 (p + 1) with
    | inl f0 =>
      obtain ⟨g', b1, b2, b3⟩ := w1 f0 e1
      rw [b1, ob, if_pos (Or.inl rfl)]
      exact ⟨fun f z => (by rw [← Sum.inl.inj z]; exact ⟨g', rfl, f1.tr b2, b3⟩), fun L q z => (by cases z)⟩
    | inr aq =>
      obtain ⟨a, q⟩ := aq
      obtain ⟨v1, v2⟩ := w2 a q e1
      dsimp only
      rw [if_neg (show ¬ k < 3 by omega)]
      by_cases c44 : B q = nI 44
      · rw [if_pos c44]
        obtain ⟨y1, y2⟩ := v2 c44
        cases e2 : pNum B j 6 (q + 1) with
        | inl f0 =>
          obtain ⟨g', b1, b2, b3⟩ := y1 f0 e2
          rw [b1, ob, if_pos (Or.inl rfl)]
          exact ⟨fun f z => (by rw [← Sum.inl.inj z]; exact ⟨g', rfl, f1.tr b2, b3⟩), fun L q z => (by cases z)⟩
        | inr br =>
          obtain ⟨b, r⟩ := br
          obtain ⟨g', b1, b2, b3, b4, b5, b6, b7, b8⟩ := y2 b r e2
          rw [b1, ob, if_pos (Or.inr rfl)]
          refine ⟨fun f z => (by cases z), fun L q z => ?_⟩
          injection Sum.inr.inj z with h1 h2
          subst h1 h2
          exact ⟨g', rfl, f1.tr b2, b3, b4, b5.trans a83, b6.trans a84, by rw [b7, a85], by rw [b8, a86, upd_upd]; rfl⟩
      · rw [if_neg c44]
        obtain ⟨g', b1, b2, b3⟩ := v1 c44
        rw [b1, ob, if_pos (Or.inl rfl)]
        exact ⟨fun f z => (by rw [← Sum.inl.inj z]; exact ⟨g', rfl, f1.tr b2, b3⟩), fun L q z => (by cases z)⟩
  by_cases c3 : k = 3
  · rw [if_pos (show nI k = 3 by rw [c3]; rfl)]
    exact twoO (by omega)
  · rw [if_neg (show ¬ nI k = 3 from ne_lit (j := 3) (by omega) (by decide) c3)]
    by_cases c4 : k = 4
    · rw [if_pos (show nI k = 4 by rw [c4]; rfl)]
      exact twoO (by omega)
    · rw [if_neg (show ¬ nI k = 4 from ne_lit (j := 4) (by omega) (by decide) c4)]
      unfold pRule
      rw [hk]
      dsimp only
      by_cases c0 : k = 0
      · rw [if_pos (show nI k = 0 by rw [c0]; rfl), if_pos c0, isDigit_eq t x1 a11 pn, ob]
        cases ed : dg (B (p + 1)) with
        | none =>
          simp only [Option.isNone, if_true]
          rw [a11, show (1 : Int32) = nI 1 from rfl, wrongAt_eq, letT_eq, if_pos (Or.inl rfl)]
          refine ⟨fun f z => ?_, fun L q z => (by cases z)⟩
          rw [← Sum.inl.inj z]
          refine ⟨_, rfl, f1.tr (MF1.at (Or.inr (Or.inl rfl))).p, ?_⟩
          rw [sI_at, upd_at]
        | some d =>
          have l2 := t.dig ed
          simp only [Option.isNone, Bool.false_eq_true, if_false, d10]
          rw [here_eq t x1 a11 pn, ob, a15, if_neg gj, cj, letT_eq, letT_eq, dg_val ed]
          have d11 : (sI g 85 j (nI d)).1 75 11 = nI (p + 1) := by rw [sI_ne _ _ _ (by decide)]; exact a11
          rw [d11, nI_1]
          refine ⟨fun f z => (by cases z), fun L q z => ?_⟩
          injection Sum.inr.inj z with h1 h2
          subst h1 h2
          have z1 : ∀ w c', c' ≠ 75 → (sI (sI g 85 j (nI d)) 75 11 w).1 c' = (sI g 85 j (nI d)).1 c' := fun w c' hc => sI_ne _ _ _ hc
          refine ⟨_, rfl, (f1.tr (MFr.cell (by decide))).tr (MF1.at (Or.inl rfl)).p, ?_, ?_, ?_, ?_, ?_, ?_⟩
          · rw [sI_at, upd_at]
          · rw [sI_at, upd_ne _ _ (by decide), sI_ne _ _ _ (by decide)]; exact a15
          · rw [z1 _ 83 (by decide), sI_ne _ _ _ (by decide)]; exact a83
          · rw [z1 _ 84 (by decide), sI_ne _ _ _ (by decide), a84, c0]
          · rw [z1 _ 85 (by decide), sI_at, a85]
          · rw [z1 _ 86 (by decide), sI_ne _ _ _ (by decide)]; exact a86
      · rw [if_neg (show ¬ nI k = 0 from ne_lit (j := 0) (by omega) (by decide) c0), if_neg c0, a15]
        obtain ⟨y1, y2⟩ := below_eq (lim := j) (flt := 6) t x1 a11 pn (by omega)
        rw [show nI 6 = 6 from rfl] at y1 y2
        cases e1 : pNum B j 6 (p + 1) with
        | inl f0 =>
          obtain ⟨g', b1, b2, b3⟩ := y1 f0 e1
          rw [b1, ob, if_pos rfl]
          exact ⟨fun f z => (by rw [← Sum.inl.inj z]; exact ⟨g', rfl, f1.tr b2.p, b3⟩), fun L q z => (by cases z)⟩
        | inr aq =>
          obtain ⟨a, q⟩ := aq
          obtain ⟨g', b1, b2, b3, b4⟩ := y2 a q e1
          obtain ⟨u83, u84, u85, u86, u15⟩ := b2.r
          dsimp only
          rw [b1, ob, if_neg d10', u15, a15, if_neg gj, cj, letT_eq, b4, if_pos (show k < 3 by omega)]
          refine ⟨fun f z => (by cases z), fun L q z => ?_⟩
          injection Sum.inr.inj z with h1 h2
          subst h1 h2
          refine ⟨_, rfl, (f1.tr b2.p).tr (MFr.cell (by decide)), ?_, ?_, ?_, ?_, ?_, ?_⟩
          · rw [sI_ne _ _ _ (by decide)]; exact b3
          · rw [sI_ne _ _ _ (by decide), u15]; exact a15
          · rw [sI_ne _ _ _ (by decide), u83]; exact a83
          · rw [sI_ne _ _ _ (by decide), u84]; exact a84
          · rw [sI_at, u85, a85]
          · rw [sI_ne _ _ _ (by decide), u86]; exact a86
theorem rule_eq {p j c : Nat} {h : AH} (t : Txt B n) (x : Tm B n h) (e : h.1 75 11 = nI p) (hp : p ≤ n) (e15 : h.1 75 15 = nI j) (hj : j < 20) : RlO h j (pRule B j c p) (fX12_readsRule h) := by
  unfold fX12_readsRule
  rw [here_eq t x e hp, ob, letT_eq]
  have kc := kd_cases (B p)
  have bad : kd (B p) = none → RlO h j (pRule B j c p) (some (0, sI h 75 13 (-(nI (1000 + p))))) := fun z => by
    unfold pRule
    rw [z]
    refine ⟨fun f q => ?_, fun L q z => (by cases z)⟩
    rw [← Sum.inl.inj q]
    refine ⟨_, rfl, (MF1.at (Or.inr (Or.inl rfl))).p, ?_⟩
    rw [sI_at, upd_at]
  by_cases c1 : B p = 97
  · rw [if_pos c1] at kc ⊢
    exact rule_k (k := 0) t x e e15 hj kc _ rfl
  · rw [if_neg c1] at kc ⊢
    by_cases c2 : B p = 115
    · rw [if_pos c2] at kc ⊢
      exact rule_k (k := 1) t x e e15 hj kc _ rfl
    · rw [if_neg c2] at kc ⊢
      by_cases c3 : B p = 110
      · rw [if_pos c3] at kc ⊢
        exact rule_k (k := 2) t x e e15 hj kc _ rfl
      · rw [if_neg c3] at kc ⊢
        by_cases c4 : B p = 43
        · rw [if_pos c4] at kc ⊢
          exact rule_k (k := 3) t x e e15 hj kc _ rfl
        · rw [if_neg c4] at kc ⊢
          by_cases c5 : B p = 42
          · rw [if_pos c5] at kc ⊢
            exact rule_k (k := 4) t x e e15 hj kc _ rfl
          · rw [if_neg c5] at kc ⊢
            dsimp only
            rw [if_pos rfl, e, show (1 : Int32) = nI 1 from rfl, wrongAt_eq, letT_eq, if_pos (Or.inl rfl)]
            exact bad kc
end ModelLine
