/-! ===== added: the choice of lines ===== -/
def Cov (e : Nat → Nat) (n r : Nat) : Prop := ∀ q, q < n → ¬ (e q &&& r = 0)
/-- the class's sets, in its rows -/
def CvE (g : AH) (L : Nat) (σ e : Nat → Nat) (n : Nat) : Prop := L ≤ 19 ∧ n ≤ 1940 ∧ σ 0 = 0 ∧ σ L = n ∧ (∀ j, j ≤ L → g.1 66 j = nI (σ j)) ∧ (∀ j, j < L → σ j ≤ σ (j + 1)) ∧ (∀ q, q < n → g.1 65 q = nI (e q) ∧ e q < 2 ^ L) ∧ ∀ j, j < L → ∀ q, σ j ≤ q → q < σ (j + 1) → (e q).testBit j = true ∧ ∀ i, i < j → (e q).testBit i = false
theorem CvE.le {g : AH} {L n : Nat} {σ e : Nat → Nat} (E : CvE g L σ e n) : ∀ {j : Nat}, j ≤ L → σ j ≤ n := by
  obtain ⟨-, -, -, h4, -, h6, -, -⟩ := E
  have key : ∀ d j, j + d = L → σ j ≤ n := by
    intro d
    induction d with
    | zero => intro j e; rw [← h4, ← e]; exact Nat.le_refl _
    | succ d ih =>
      intro j e
      exact Nat.le_trans (h6 j (by omega)) (ih (j + 1) (by omega))
  intro j hj
  exact key (L - j) j (by omega)
def opn (e : Nat → Nat) (c j q : Nat) : Bool := (e q).testBit j && decide (e q &&& c = 0)
theorem nI_and0 {a b : Nat} (ha : a < 2 ^ 20) : (nI a &&& nI b = 0) ↔ a &&& b = 0 := by
  rw [fa_and]
  have : a &&& b ≤ a := Nat.and_le_left
  exact nI_eq (b := 0) (by omega) (by decide)
theorem hasOpen_eq {g : AH} {L n a b c j : Nat} {σ e : Nat → Nat} (E : CvE g L σ e n) (hab : a ≤ b) (hb : b ≤ n) (hj : j < L) : fX2_hasOpenSet (nI a) (nI b) (nI c) (jshl 1 (nI j)) g = some (if (fst (opn e c j) a (b - a)).isNone then 0 else 1) := by
  obtain ⟨h1, h2, -, -, -, -, h7, -⟩ := E
  unfold fX2_hasOpenSet
  have k := for_fst (F := fun m xx => fX2_hasOpenSet_l3 (nI b) (nI c) (jshl 1 (nI j)) g m xx) (opn e c j) (fun _ => some (1 : Int32)) (some (0 : Int32)) b (by omega) (fun m i hi => by
      show fX2_hasOpenSet_l3b (fX2_hasOpenSet_l3 (nI b) (nI c) (jshl 1 (nI j)) g m) (nI b) (nI c) (jshl 1 (nI j)) g (nI i) = _
      unfold fX2_hasOpenSet_l3b
      obtain ⟨e1, e2⟩ := h7 i (by omega)
      have e3 : e i < 2 ^ 20 := Nat.lt_of_lt_of_le e2 (Nat.pow_le_pow_right (by decide) (by omega))
      rw [if_pos (nI_lt hi (by omega)), at_in (show i < aln 65 by show _ < 1940; omega), e1, nI_1, bit_nI (by omega)]
      dsimp only [letT]
      unfold opn
      have f1 := fa_bit (n := e i) (j := j) (by omega)
      cases hb : (e i).testBit j with
      | false => rw [if_pos (f1.mpr hb)]; rfl
      | true =>
        rw [if_neg (fun q => by rw [f1.mp q] at hb; cases hb), Bool.true_and]
        by_cases z : e i &&& c = 0
        · rw [if_pos ((nI_and0 e3).mpr z), decide_eq_true z]; rfl
        · rw [if_neg (fun q => z ((nI_and0 e3).mp q)), decide_eq_false z]; rfl) (fun m => by
      show fX2_hasOpenSet_l3b (fX2_hasOpenSet_l3 (nI b) (nI c) (jshl 1 (nI j)) g m) (nI b) (nI c) (jshl 1 (nI j)) g (nI b) = _
      unfold fX2_hasOpenSet_l3b
      rw [if_neg (nI_nlt (Nat.le_refl _) (by omega))]) fuel0 a hab (by have := fuel_big; omega)
  refine Eq.trans k ?_
  cases fst (opn e c j) a (b - a) <;> rfl
def ChS (e : Nat → Nat) (n k c left : Nat) (o : Option Nat) : Prop :=
  (o = none → ∀ X, X < 2 ^ k → pop X ≤ left → ¬ Cov e n (c ||| X)) ∧ ∀ r, o = some r → ∃ X0, X0 < 2 ^ k ∧ r = c ||| X0 ∧ pop X0 ≤ left ∧ Cov e n r ∧ ∀ X, X < 2 ^ k → pop X ≤ left → Cov e n (c ||| X) → X0 ≤ X
theorem choose_eq {g : AH} {L n : Nat} {σ e : Nat → Nat} (E : CvE g L σ e n) : ∀ (k d c left : Nat), k ≤ L → k < d → c < 2 ^ L → (∀ i, i < k → c.testBit i = false) → (∀ q, σ k ≤ q → q < n → ¬ (e q &&& c = 0)) → left ≤ 20 →
    ∃ o : Option Nat, fX2_chooseD d (nI k - 1) (nI c) (nI left) g = some (o.elim (-1) nI) ∧ ChS e n k c left o ∧ ∀ r, o = some r → r < 2 ^ L := by
  obtain ⟨h1, h2, h3, h4, h5, h6, h7, h8⟩ := id E
  have two20 : 2 ^ L ≤ 2 ^ 20 := Nat.pow_le_pow_right (by decide) (by omega)
  intro k
  induction k with
  | zero =>
    intro d c left hk hd hc hlow hhit hleft
    obtain ⟨d, rfl⟩ : ∃ d', d = d' + 1 := ⟨d - 1, by omega⟩
    refine ⟨some c, ?_, ⟨fun q => (by cases q), fun r hr => ?_⟩, fun r hr => by rw [← Option.some.inj hr]; exact hc⟩
    · show fX2_choose (fX2_chooseD d) (nI 0 - 1) (nI c) (nI left) g = _
      unfold fX2_choose
      rw [if_pos (by decide)]
      rfl
    · have : c = r := Option.some.inj hr
      subst this
      have p0 : pop 0 = 0 := by decide
      refine ⟨0, by decide, by rw [Nat.or_zero], by rw [p0]; exact Nat.zero_le _, fun q hq => hhit q (by rw [h3]; exact Nat.zero_le _) hq, fun X _ _ _ => Nat.zero_le _⟩
  | succ j ih =>
    intro d c left hk hd hc hlow hhit hleft
    obtain ⟨d, rfl⟩ : ∃ d', d = d' + 1 := ⟨d - 1, by omega⟩
    have hjL : j < L := by omega
    have sj := E.le (j := j) (by omega)
    have sj1 := E.le (j := j + 1) (by omega)
    have mono := h6 j hjL
    have c1 : c ||| 2 ^ j < 2 ^ L := Nat.or_lt_two_pow hc (Nat.pow_lt_pow_right (by decide) hjL)
    have cb : ∀ i, (c ||| 2 ^ j).testBit i = (c.testBit i || decide (j = i)) := fun i => by rw [Nat.testBit_or, Nat.testBit_two_pow]
    have with1 : ∀ Y, c ||| (Y ||| 2 ^ j) = (c ||| 2 ^ j) ||| Y := fun Y => by rw [Nat.or_comm Y, ← Nat.or_assoc]
    -- the two ways
    have W : 0 < left → ∃ o : Option Nat, fX2_chooseD d (nI j - 1) (nI (c ||| 2 ^ j)) (nI (left - 1)) g = some (o.elim (-1) nI) ∧ ChS e n j (c ||| 2 ^ j) (left - 1) o ∧ ∀ r, o = some r → r < 2 ^ L := fun hl => by
      refine ih d (c ||| 2 ^ j) (left - 1) (by omega) (by omega) c1 (fun i hi => ?_) (fun q hq hqn => ?_) (by omega)
      · rw [cb, hlow i (by omega)]
        have : ¬ j = i := by omega
        simp [this]
      · rw [and_nz]
        by_cases a : σ (j + 1) ≤ q
        · obtain ⟨i, x, y⟩ := and_nz.mp (hhit q a hqn)
          exact ⟨i, x, by rw [cb, y]; rfl⟩
        · exact ⟨j, (h8 j hjL q hq (by omega)).1, by rw [cb]; simp⟩
    show ∃ o : Option Nat, fX2_choose (fX2_chooseD d) (nI (j + 1) - 1) (nI c) (nI left) g = _ ∧ _
    rw [nI_sub1 (by omega), Nat.add_sub_cancel]
    unfold fX2_choose
    rw [if_neg (nI_pos (by omega)), if_pos (show nI j < 20 from nI_lt (b := 20) (by omega) (by decide)), nI_1, at_in (show j < aln 66 by show _ < 21; omega), at_in (show j + 1 < aln 66 by show _ < 21; omega), h5 j (by omega), h5 (j + 1) (by omega), show fX11_bit (nI j) g = jshl 1 (nI j) from rfl, hasOpen_eq E mono sj1 hjL, ob]
    have ho2 := hasOpen_eq (c := c) E (Nat.zero_le _) sj hjL
    have ho2' : fX2_hasOpenSet 0 (nI (σ j)) (nI c) (jshl 1 (nI j)) g = _ := ho2
    rw [Nat.sub_zero] at ho2'
    dsimp only [letT]
    have ebit : nI c ||| jshl 1 (nI j) = nI (c ||| 2 ^ j) := or_bit (by omega)
    have el : (0 : Int32) < nI left ↔ 0 < left := ⟨fun q => by
      by_cases a : 0 < left
      · exact a
      · have : left = 0 := by omega
        rw [this] at q
        exact absurd q (by decide), fun q => nI_lt (a := 0) q (by omega)⟩
    rw [ebit]
    cases must : fst (opn e c j) (σ j) (σ (j + 1) - σ j) with
    | some q0 =>
      obtain ⟨m1, m2, m3, -⟩ := fst_some must
      have hq0 : q0 < σ (j + 1) := by omega
      unfold opn at m3
      simp only [Bool.and_eq_true, decide_eq_true_eq] at m3
      obtain ⟨-, mz⟩ := m3
      obtain ⟨-, lowq⟩ := h8 j hjL q0 m1 hq0
      -- j must be in it
      have need : ∀ X, X < 2 ^ j → ¬ Cov e n (c ||| X) := fun X hX hcov => by
        obtain ⟨i, x, y⟩ := and_nz.mp (hcov q0 (by omega))
        rw [Nat.testBit_or, Bool.or_eq_true] at y
        rcases y with y | y
        · exact and_nz.mpr ⟨i, x, y⟩ mz
        · by_cases a : i < j
          · rw [lowq i a] at x; cases x
          · rw [tb_big hX (by omega)] at y; cases y
      simp only [Option.isNone, Bool.false_eq_true, if_false, d10, show ((-1 : Int32) < 0) = True from eq_true (by decide), if_true]
      by_cases hl : 0 < left
      · obtain ⟨o, e1, s1, s2⟩ := W hl
        rw [if_pos (el.mpr hl), nI_sub1 hl, e1, ob]
        refine ⟨o, rfl, ⟨fun hn X hX hp hcov => ?_, fun r hr => ?_⟩, s2⟩
        · rcases two_cases hX with a | ⟨Y, hY, rfl⟩
          · exact need X a hcov
          · rw [pop_or hY (by omega)] at hp
            rw [with1] at hcov
            exact s1.1 hn Y hY (by omega) hcov
        · obtain ⟨X0, a1, a2, a3, a4, a5⟩ := s1.2 r hr
          refine ⟨X0 ||| 2 ^ j, ?_, by rw [with1]; exact a2, by rw [pop_or a1 (by omega)]; omega, a4, fun X hX hp hcov => ?_⟩
          · rw [or_two a1, Nat.pow_succ]; omega
          · rcases two_cases hX with a | ⟨Y, hY, rfl⟩
            · exact absurd hcov (need X a)
            · rw [pop_or hY (by omega)] at hp
              rw [with1] at hcov
              have := a5 Y hY (by omega) hcov
              rw [or_two a1, or_two hY]
              omega
      · rw [if_neg (fun q => hl (el.mp q))]
        refine ⟨none, rfl, ⟨fun _ X hX hp hcov => ?_, fun r hr => by cases hr⟩, fun r hr => by cases hr⟩
        rcases two_cases hX with a | ⟨Y, hY, rfl⟩
        · exact need X a hcov
        · rw [pop_or hY (by omega)] at hp
          omega
    | none =>
      have nomust : ∀ q, σ j ≤ q → q < n → ¬ (e q &&& c = 0) := fun q a b => by
        by_cases x : σ (j + 1) ≤ q
        · exact hhit q x b
        · intro z
          have := fst_none must q a (by omega)
          unfold opn at this
          rw [(h8 j hjL q a (by omega)).1, decide_eq_true z] at this
          cases this
      obtain ⟨o, e1, s1, s2⟩ := ih d c left (by omega) (by omega) hc (fun i hi => hlow i (by omega)) nomust hleft
      simp only [Option.isNone, if_true]
      rw [e1, ob, ho2', ob]
      cases o with
      | some r =>
        have hr2 : r < 2 ^ L := s2 r rfl
        have hneg : ¬ (some r).elim (-1) nI < 0 := nI_pos (by omega)
        refine ⟨some r, ?_, ⟨fun q => (by cases q), fun r' hr' => ?_⟩, s2⟩
        · simp only [hneg, if_false, ite_self]
        · obtain ⟨X0, a1, a2, a3, a4, a5⟩ := s1.2 r' hr'
          refine ⟨X0, by rw [Nat.pow_succ]; omega, a2, a3, a4, fun X hX hp hcov => ?_⟩
          by_cases a : X < 2 ^ j
          · exact a5 X a hp hcov
          · omega
      | none =>
        have s3 := s1.1 rfl
        simp only [Option.elim, show ((-1 : Int32) < 0) = True from eq_true (by decide), if_true]
        by_cases hl : 0 < left
        · rw [if_pos (el.mpr hl)]
          cases helps : fst (opn e c j) 0 (σ j) with
          | none =>
            simp only [Option.isNone, if_true, el.mpr hl]
            refine ⟨none, rfl, ⟨fun _ X hX hp hcov => ?_, fun r hr => by cases hr⟩, fun r hr => by cases hr⟩
            rcases two_cases hX with a | ⟨Y, hY, rfl⟩
            · exact s3 X a hp hcov
            · rw [pop_or hY (by omega)] at hp
              refine s3 Y hY (by omega) (fun q hq => ?_)
              obtain ⟨i, x, y⟩ := and_nz.mp (hcov q hq)
              rw [Nat.testBit_or, Nat.testBit_or, Nat.testBit_two_pow] at y
              rw [and_nz]
              by_cases ei : j = i
              · have hz : ¬ (e q &&& c = 0) := by
                  by_cases a : σ j ≤ q
                  · exact nomust q a hq
                  · intro z
                    have := fst_none helps q (Nat.zero_le _) (by omega)
                    unfold opn at this
                    rw [ei, x, decide_eq_true z] at this
                    cases this
                obtain ⟨i', x', y'⟩ := and_nz.mp hz
                exact ⟨i', x', by rw [Nat.testBit_or, y']; rfl⟩
              · refine ⟨i, x, ?_⟩
                rw [Nat.testBit_or]
                simpa [ei] using y
          | some q1 =>
            simp only [Option.isNone, Bool.false_eq_true, if_false, d10, el.mpr hl, if_true]
            obtain ⟨o, e2, t1, t2⟩ := W hl
            rw [nI_sub1 hl, e2, ob]
            refine ⟨o, rfl, ⟨fun hn X hX hp hcov => ?_, fun r hr => ?_⟩, t2⟩
            · rcases two_cases hX with a | ⟨Y, hY, rfl⟩
              · exact s3 X a hp hcov
              · rw [pop_or hY (by omega)] at hp
                rw [with1] at hcov
                exact t1.1 hn Y hY (by omega) hcov
            · obtain ⟨X0, a1, a2, a3, a4, a5⟩ := t1.2 r hr
              refine ⟨X0 ||| 2 ^ j, ?_, by rw [with1]; exact a2, by rw [pop_or a1 (by omega)]; omega, a4, fun X hX hp hcov => ?_⟩
              · rw [or_two a1, Nat.pow_succ]; omega
              · rcases two_cases hX with a | ⟨Y, hY, rfl⟩
                · exact absurd hcov (s3 X a hp)
                · rw [pop_or hY (by omega)] at hp
                  rw [with1] at hcov
                  have := a5 Y hY (by omega) hcov
                  rw [or_two a1, or_two hY]
                  omega
        · rw [if_neg (fun q => hl (el.mp q))]
          refine ⟨none, ?_, ⟨fun _ X hX hp hcov => ?_, fun r hr => by cases hr⟩, fun r hr => by cases hr⟩
          · simp only [show ¬ (0 : Int32) < nI left from fun q => hl (el.mp q), if_false, ite_self]
          · rcases two_cases hX with a | ⟨Y, hY, rfl⟩
            · exact s3 X a hp hcov
            · rw [pop_or hY (by omega)] at hp
              omega
