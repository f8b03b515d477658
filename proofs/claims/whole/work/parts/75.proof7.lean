section ModelProof
variable {B : Nat → Int32} {n : Nat}
theorem lineM_eq {p j M : Nat} {h : AH} (t : Txt B n) (x : Tm B n h) (e : h.1 75 11 = nI p) (hp : p ≤ n) (e15 : h.1 75 15 = nI j) (hj : j ≤ 20) (e0 : h.1 75 0 = nI M) (hM : M ≤ 97) :
    (∀ f, pLine B M j p = .inl f → ∃ g, fX12_readsLine h = some (0, g) ∧ MFr h g ∧ g.1 75 13 = -(nI f)) ∧
    ∀ L q, pLine B M j p = .inr (L, q) → ∃ g, fX12_readsLine h = some (1, g) ∧ MFr h g ∧ g.1 75 11 = nI q ∧ g.1 75 15 = nI (j + 1) ∧ g.1 83 = upd (h.1 83) j (nI L.1) ∧ g.1 84 = upd (h.1 84) j (nI L.2.1) ∧ g.1 85 = upd (h.1 85) j (nI L.2.2.1) ∧ g.1 86 = upd (h.1 86) j (lnS L) := by
  have n200 := t.1
  unfold fX12_readsLine pLine
  rw [isDigit_eq t x e hp, ob]
  have wr : ∀ a, ∃ g, (letT (fX12_wrongAt (nI a) (nI p) h) (fun b19 => if b19.1 = 0 ∨ b19.1 = 1 then some (b19.1, b19.2) else none) : Option (Int32 × AH)) = some (0, g) ∧ MFr h g ∧ g.1 75 13 = -(nI (1000 * a + p)) := fun a => by
    rw [wrongAt_eq, letT_eq, if_pos (Or.inl rfl)]
    refine ⟨_, rfl, (MF1.at (Or.inr (Or.inl rfl))).p, ?_⟩
    rw [sI_at, upd_at]
  cases d0 : dg (B p) with
  | none =>
    simp only [Option.isNone, if_true]
    rw [e]
    refine ⟨fun f z => ?_, fun L q z => (by cases z)⟩
    rw [← Sum.inl.inj z]
    exact wr 1
  | some d =>
    simp only [Option.isNone, Bool.false_eq_true, if_false, d10]
    rw [e15]
    by_cases j20 : j = 20
    · rw [if_pos (show nI j = 20 by rw [j20]; rfl), if_pos j20, e]
      refine ⟨fun f z => ?_, fun L q z => (by cases z)⟩
      rw [← Sum.inl.inj z]
      exact wr 4
    · have hj' : j < 20 := by omega
      have gj := gd hj' (show 20 ≤ 4000 by decide)
      have cj : (nI j).toNatClampNeg = j := nI_clamp (by omega)
      rw [if_neg (show ¬ nI j = 20 from ne_lit (j := 20) (by omega) (by decide) j20), if_neg j20, e0]
      obtain ⟨y1, y2⟩ := below_eq (lim := M) (flt := 3) t x e hp (by omega)
      rw [show nI 3 = 3 from rfl] at y1 y2
      cases e1 : pNum B M 3 p with
      | inl f0 =>
        obtain ⟨g', b1, b2, b3⟩ := y1 f0 e1
        rw [b1, ob, if_pos rfl]
        refine ⟨fun f z => ?_, fun L q z => (by cases z)⟩
        rw [← Sum.inl.inj z]
        exact ⟨g', rfl, b2.p, b3⟩
      | inr cq =>
        obtain ⟨c, q⟩ := cq
        obtain ⟨g', b1, b2, b3, b4⟩ := y2 c q e1
        obtain ⟨-, -, -, qn⟩ := pNum_ok t e1
        obtain ⟨u83, u84, u85, u86, u15⟩ := b2.r
        dsimp only
        rw [b1, ob, if_neg d10', u15, e15, if_neg gj, cj, letT_eq, b4]
        have f2 : MFr h (sI g' 83 j (nI c)) := b2.p.tr (MFr.cell (by decide))
        have c11 : (sI g' 83 j (nI c)).1 75 11 = nI q := by rw [sI_ne _ _ _ (by decide)]; exact b3
        have c15 : (sI g' 83 j (nI c)).1 75 15 = nI j := by rw [sI_ne _ _ _ (by decide), u15]; exact e15
        have c83 : (sI g' 83 j (nI c)).1 83 = upd (h.1 83) j (nI c) := by rw [sI_at, u83]
        have c84 : (sI g' 83 j (nI c)).1 84 = h.1 84 := by rw [sI_ne _ _ _ (by decide)]; exact u84
        have c85 : (sI g' 83 j (nI c)).1 85 = h.1 85 := by rw [sI_ne _ _ _ (by decide)]; exact u85
        have c86 : (sI g' 83 j (nI c)).1 86 = h.1 86 := by rw [sI_ne _ _ _ (by decide)]; exact u86
        generalize sI g' 83 j (nI c) = g5 at f2 c11 c15 c83 c84 c85 c86
        have x2 := x.frM f2
        obtain ⟨t1, t2⟩ := takes_eq (k := 61) t x2 c11 qn
        rw [show nI 61 = 61 from rfl] at t1 t2
        by_cases c61 : B q = nI 61
        · have q1 := t.lit (by decide) c61
          rw [if_pos c61, t1 c61, ob, if_neg d10']
          have f3 : MF1 g5 (sI g5 75 11 (nI (q + 1))) := MF1.at (Or.inl rfl)
          have d11 : (sI g5 75 11 (nI (q + 1))).1 75 11 = nI (q + 1) := by rw [sI_at, upd_at]
          obtain ⟨s83, s84, s85, s86, s15⟩ := f3.r
          generalize sI g5 75 11 (nI (q + 1)) = g6 at f3 d11 s83 s84 s85 s86 s15
          dsimp only
          obtain ⟨r1, r2⟩ := rule_eq (c := c) t (x2.fr f3) d11 q1 (s15.trans c15) hj'
          refine ⟨fun f z => ?_, fun L r z => ?_⟩
          · obtain ⟨g7, a1, a2, a3⟩ := r1 f z
            rw [a1, ob, if_pos rfl]
            exact ⟨g7, rfl, (f2.tr f3.p).tr a2, a3⟩
          · obtain ⟨g7, a1, a2, a3, a4, a5, a6, a7, a8⟩ := r2 L r z
            have hc : L.1 = c := by
              unfold pRule at z
              cases k1 : kd (B (q + 1)) with
              | none => rw [k1] at z; cases z
              | some k =>
                rw [k1] at z
                dsimp only at z
                by_cases k0 : k = 0
                · rw [if_pos k0] at z
                  cases d1 : dg (B (q + 1 + 1)) with
                  | none => rw [d1] at z; cases z
                  | some dd =>
                    rw [d1] at z
                    injection Sum.inr.inj z with h1 h2
                    rw [← h1]
                · rw [if_neg k0] at z
                  cases n1 : pNum B j 6 (q + 1 + 1) with
                  | inl f => rw [n1] at z; cases z
                  | inr aq =>
                    rw [n1] at z
                    dsimp only at z
                    by_cases k3 : k < 3
                    · rw [if_pos k3] at z
                      injection Sum.inr.inj z with h1 h2
                      rw [← h1]
                    · rw [if_neg k3] at z
                      by_cases c44 : B aq.2 = nI 44
                      · rw [if_pos c44] at z
                        cases n2 : pNum B j 6 (aq.2 + 1) with
                        | inl f => rw [n2] at z; cases z
                        | inr br =>
                          rw [n2] at z
                          injection Sum.inr.inj z with h1 h2
                          rw [← h1]
                      · rw [if_neg c44] at z; cases z
            rw [a1, ob, if_neg d10', letT_eq, a4, nI_1]
            refine ⟨_, rfl, ((f2.tr f3.p).tr a2).tr MFr.lines, ?_, ?_, ?_, ?_, ?_, ?_⟩
            · rw [sI_at, upd_ne _ _ (by decide)]; exact a3
            · rw [sI_at, upd_at]
            · rw [sI_ne _ _ _ (by decide), a5, s83, c83, hc]
            · rw [sI_ne _ _ _ (by decide), a6, s84, c84]
            · rw [sI_ne _ _ _ (by decide), a7, s85, c85]
            · rw [sI_ne _ _ _ (by decide), a8, s86, c86]
        · rw [if_neg c61, t2 c61, ob, if_pos rfl]
          refine ⟨fun f z => ?_, fun L r z => (by cases z)⟩
          rw [← Sum.inl.inj z]
          refine ⟨_, rfl, f2.tr (MF1.at (Or.inr (Or.inl rfl))).p, ?_⟩
          rw [sI_at, upd_at]
/-- the model's loop: behind a line -/
theorem proofM41 {M : Nat} {K : Int32 → AH → Option (Int32 × AH)} (t : Txt B n) (hM : M ≤ 97) : ∀ (k p m : Nat) (l : List Ln) (h : AH), l.length + k = 21 → l.length ≤ 20 → k < m → Tm B n h → h.1 75 11 = nI p → p ≤ n → h.1 75 15 = nI l.length → h.1 75 0 = nI M → EncL (h.1 83) (h.1 84) (h.1 85) (h.1 86) l →
    (∀ f, pLoop B n M k p l = .inl f → ∃ g, (fX12_readsLine h).bind (fun b => fX12_proof_l41 K m b.1 b.2) = K 0 g ∧ MFr h g ∧ g.1 75 13 = -(nI f)) ∧
    ∀ l', pLoop B n M k p l = .inr l' → ∃ g, (fX12_readsLine h).bind (fun b => fX12_proof_l41 K m b.1 b.2) = K 1 g ∧ MFr h g ∧ g.1 75 15 = nI l'.length ∧ EncL (g.1 83) (g.1 84) (g.1 85) (g.1 86) l' := by
  have n200 := t.1
  intro k
  induction k with
  | zero => intro p m l g h1 h2; omega
  | succ k ih =>
    intro p m l h h1 h2 h3 x e hp e15 e0 en
    obtain ⟨m, rfl⟩ : ∃ m', m = m' + 2 := ⟨m - 2, by omega⟩
    obtain ⟨o1, o2⟩ := lineM_eq t x e hp e15 h2 e0 hM
    have stop : ∀ g, fX12_proof_l41 K (m + 2) 0 g = K 0 g := fun g => by
      show fX12_proof_l41b (fX12_proof_l41 K (m + 1)) K 0 g = _
      unfold fX12_proof_l41b
      rw [if_pos rfl]
    have stop' : ∀ g, fX12_proof_l41 K (m + 1) 0 g = K 0 g := fun g => by
      show fX12_proof_l41b (fX12_proof_l41 K m) K 0 g = _
      unfold fX12_proof_l41b
      rw [if_pos rfl]
    unfold pLoop
    cases eL : pLine B M l.length p with
    | inl f0 =>
      obtain ⟨g, a1, a2, a3⟩ := o1 f0 eL
      rw [a1, ob, stop]
      refine ⟨fun f z => ?_, fun l' z => (by cases z)⟩
      rw [← Sum.inl.inj z]
      exact ⟨g, rfl, a2, a3⟩
    | inr Lq =>
      obtain ⟨L, q⟩ := Lq
      obtain ⟨j20, v, pq, qn⟩ := pLine_ok t h2 eL
      obtain ⟨g, a1, a2, a3, a4, a5, a6, a7, a8⟩ := o2 L q eL
      have en2 : EncL (g.1 83) (g.1 84) (g.1 85) (g.1 86) (l ++ [L]) := by rw [a5, a6, a7, a8]; exact en.add
      have len : (l ++ [L]).length = l.length + 1 := by rw [List.length_append]; rfl
      have x2 := x.frM a2
      rw [a1, ob]
      show (∀ f, _ → ∃ g', fX12_proof_l41b (fX12_proof_l41 K (m + 1)) K 1 g = K 0 g' ∧ MFr h g' ∧ g'.1 75 13 = -(nI f)) ∧ ∀ l', _ → ∃ g', fX12_proof_l41b (fX12_proof_l41 K (m + 1)) K 1 g = K 1 g' ∧ MFr h g' ∧ g'.1 75 15 = nI l'.length ∧ EncL (g'.1 83) (g'.1 84) (g'.1 85) (g'.1 86) l'
      unfold fX12_proof_l41b
      rw [if_neg d10', a3, x2.1]
      dsimp only
      by_cases qe : q = n
      · rw [if_pos qe, if_neg (nI_nlt (by omega) (by omega))]
        refine ⟨fun f z => (by cases z), fun l' z => ?_⟩
        rw [← Sum.inr.inj z]
        exact ⟨g, rfl, a2, by rw [len]; exact a4, en2⟩
      · rw [if_neg qe, if_pos (nI_lt (by omega) (by omega))]
        obtain ⟨t1, t2⟩ := takes_eq (k := 59) t x2 a3 qn
        rw [show nI 59 = 59 from rfl] at t1 t2
        by_cases c59 : B q = nI 59
        · have q1 := t.lit (by decide) c59
          rw [if_pos c59, t1 c59, ob, if_neg d10']
          have f3 : MF1 g (sI g 75 11 (nI (q + 1))) := MF1.at (Or.inl rfl)
          have d11 : (sI g 75 11 (nI (q + 1))).1 75 11 = nI (q + 1) := by rw [sI_at, upd_at]
          obtain ⟨s83, s84, s85, s86, s15⟩ := f3.r
          have s0 : (sI g 75 11 (nI (q + 1))).1 75 0 = nI M := by rw [sI_at, upd_ne _ _ (by decide), a2.2.1 0 (by decide) (by decide) (by decide) (by decide)]; exact e0
          generalize sI g 75 11 (nI (q + 1)) = g6 at f3 d11 s83 s84 s85 s86 s15 s0
          dsimp only
          have := ih (q + 1) (m + 1) (l ++ [L]) g6 (by rw [len]; omega) (by rw [len]; omega) (by omega) (x2.fr f3) d11 q1 (by rw [s15, a4, len]) s0 (by rw [s83, s84, s85, s86]; exact en2)
          obtain ⟨i1, i2⟩ := this
          have eb : (fX12_readsLine g6).bind (fun b13 => if b13.1 = 0 then fX12_proof_l41 K (m + 1) 0 b13.2 else fX12_proof_l41 K (m + 1) 1 b13.2) = (fX12_readsLine g6).bind (fun b => fX12_proof_l41 K (m + 1) b.1 b.2) := by
            obtain ⟨w1, w2⟩ := lineM_eq t (x2.fr f3) d11 q1 (s15.trans a4) (by omega) s0 hM
            cases eL2 : pLine B M (l.length + 1) (q + 1) with
            | inl f0 =>
              obtain ⟨g', b1, -⟩ := w1 f0 eL2
              rw [b1, ob, ob, if_pos rfl]
            | inr Lq2 =>
              obtain ⟨g', b1, -⟩ := w2 Lq2.1 Lq2.2 eL2
              rw [b1, ob, ob, if_neg d10']
          rw [eb]
          refine ⟨fun f z => ?_, fun l' z => ?_⟩
          · obtain ⟨g', a, b, c⟩ := i1 f z
            exact ⟨g', a, (a2.tr f3.p).tr b, c⟩
          · obtain ⟨g', a, b, c⟩ := i2 l' z
            exact ⟨g', a, (a2.tr f3.p).tr b, c⟩
        · rw [if_neg c59, t2 c59, ob, if_pos rfl, stop']
          refine ⟨fun f z => ?_, fun l' z => (by cases z)⟩
          rw [← Sum.inl.inj z]
          refine ⟨_, rfl, a2.tr (MF1.at (Or.inr (Or.inl rfl))).p, ?_⟩
          rw [sI_at, upd_at]
end ModelProof
