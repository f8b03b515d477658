theorem gcd_eqM {a b : Nat} {h : AH} (hb : b < 2 ^ 11) (ha : a < 2 ^ 62) : fX12_gcd (lN a) (lN b) h = some (lN (Nat.gcd a b)) := by
  unfold fX12_gcd
  exact gcdM 11 a b fuel0 hb (by decide) ha (by omega) (by have := fuel_big; omega)
theorem orderM {N M x n p : Nat} {h h1 : AH} {he : Int32} {L : Nat → Int32} {C V : Nat → Rw → Int32} {t w : Nat → Nat} (H : ScN N M x h) (X : Lx h n L C V) (c1 : Core h h1) (h0 : 0 < N) (hh1 : ¬ he < 0) (hh2 : he < 10) (ht : ∀ i, i < N → t i ≤ 99) (hw : ∀ i, i < N → w i ≤ 99) (et : ∀ i, i < N → oT h N M n L C V he i = nI (t i)) (ew : ∀ i, i < N → oW h N M n L C V i = nI (w i)) (hp : p < N ∨ p = 30 ∨ p = 31) : ∃ h2, mo_order he (nI p) h1 = some (oR t w N p, h2) ∧ Core h1 h2 := by
  have hN := H.N
  have e75 := (H.core c1).sM
  obtain ⟨g, e, c, q⟩ := lays2 (K := fun (g13 : AH) => letT (fX12_allLines g13) (fun v14 => fX12_laysOrder_l61 fuel0 v14 (0 : Int32) g13)) (he := he) H X c1
  obtain ⟨g', e2, c2, q108, R⟩ := lays61 (t := t) (w := w) H ht hw (c1.tr c) (fun i hi => by rw [(q i hi).1, (q i hi).2, et i hi, ew i hi]; exact ⟨rfl, rfl⟩)
  have el : fX12_laysOrder he h1 = some g' := by
    unfold fX12_laysOrder
    rw [e]
    dsimp only [letT]
    unfold fX12_allLines
    rw [(H.core (c1.tr c)).sM]
    exact e2
  have c3 : Core h1 g' := c1.sy.tr c2
  obtain ⟨l1, l2, l3, l4⟩ := oS_le ht hw hN N (Nat.le_refl _)
  unfold mo_order fX12_order
  rw [isHearer_eq, if_neg hh1, if_pos hh2, if_neg (by decide), e75, if_neg (show ¬ nI N = 0 from ne_lit (j := 0) (by omega) (by decide) (by omega))]
  dsimp only [letT]
  rw [el, ob]
  unfold oR
  rcases hp with hp | hp | hp
  · rw [if_neg (show ¬ nI p = 30 from ne_lit (j := 30) (by omega) (by decide) (by omega)), if_neg (show ¬ nI p = 31 from ne_lit (j := 31) (by omega) (by decide) (by omega)), isLine_in e75 hN hp, if_neg (by decide), if_pos (show nI p < 30 from nI_lt (b := 30) (by omega) (by decide)), if_neg (gd (show p < 20 by omega) (by decide)), nI_clamp (by omega), q108 p hp]
    have hl : oN t w N p < N := by have := (fst_some ((oN_spec (t := t) (w := w) (N := N) p (by omega)).2 hp)).2.1; omega
    rw [nI_l (by omega), if_neg (by omega), if_neg (by omega)]
    exact ⟨g', rfl, c3⟩
  · have e30 : nI p = 30 := by rw [hp]; rfl
    rw [if_pos e30, e30, if_neg (by decide), order68 (t := t) (w := w) H ht hw c2 R q108, if_pos hp]
    unfold oA
    generalize oS t w N N = s at l1 l2 l3 l4
    rw [lg_z (show s.2.2 < 2 ^ 62 by omega)]
    by_cases z : s.2.2 = 0
    · rw [if_pos z, if_pos rfl, if_pos rfl, if_pos z]
      exact ⟨g', rfl, c3⟩
    · have gp : 0 < Nat.gcd s.2.1 s.2.2 := Nat.gcd_pos_of_pos_right _ (by omega)
      have gl : Nat.gcd s.2.1 s.2.2 ≤ s.2.2 := Nat.gcd_le_right _ (by omega)
      have gz : ¬ lN (Nat.gcd s.2.1 s.2.2) = 0 := lN_nz (by omega) (by omega)
      rw [if_neg z, if_neg (by decide), gcd_eqM (by omega) (by omega), ob, if_pos rfl, if_neg gz, if_neg z, pk_lDiv (by omega) gp (by omega)]
      exact ⟨g', rfl, c3⟩
  · have e31 : nI p = 31 := by rw [hp]; rfl
    rw [e31, if_neg (by decide), if_pos rfl, if_neg (by decide), order68 (t := t) (w := w) H ht hw c2 R q108, if_neg (show ¬ p = 30 by omega), if_pos hp]
    unfold oB
    generalize oS t w N N = s at l1 l2 l3 l4
    rw [lg_z (show s.2.2 < 2 ^ 62 by omega)]
    by_cases z : s.2.2 = 0
    · rw [if_pos z, if_pos rfl, if_neg (by decide), if_pos z]
      exact ⟨g', rfl, c3⟩
    · have gp : 0 < Nat.gcd s.2.1 s.2.2 := Nat.gcd_pos_of_pos_right _ (by omega)
      have gl : Nat.gcd s.2.1 s.2.2 ≤ s.2.2 := Nat.gcd_le_right _ (by omega)
      have gz : ¬ lN (Nat.gcd s.2.1 s.2.2) = 0 := lN_nz (by omega) (by omega)
      rw [if_neg z, if_neg (by decide), gcd_eqM (by omega) (by omega), ob, if_neg (by decide), if_neg gz, if_neg z, pk_lDiv (by omega) gp (by omega)]
      exact ⟨g', rfl, c3⟩
theorem st_order (p q : Int32) {h : AH} (I : Inv h) : St (xo_order p q) (mo_order p q) h := by
  obtain ⟨⟨N, M, x, H⟩, -, -, n, Z⟩ := id I
  obtain ⟨L, C, V, X⟩ := Z.x
  have hN := H.N
  by_cases c1 : p < 0
  · refine St.ro (r := -1) I ?_ .rf ?_ .rf
    · unfold xo_order fX11_order
      dsimp only [letT]
      simp only [c1, if_true, ite_self]
    · unfold mo_order fX12_order
      rw [isHearer_eq, if_pos c1, if_pos rfl]
  by_cases c2 : ¬ p < 10
  · refine St.ro (r := -1) I ?_ .rf ?_ .rf
    · unfold xo_order fX11_order
      dsimp only [letT]
      simp only [c1, c2, if_false, ite_self]
    · unfold mo_order fX12_order
      rw [isHearer_eq, if_neg c1, if_neg c2, if_pos rfl]
  have c2 : p < 10 := Decidable.of_not_not c2
  by_cases h0 : N = 0
  · subst h0
    refine St.ro (r := -1) I ?_ .rf ?_ .rf
    · unfold xo_order fX11_order
      dsimp only [letT]
      simp only [c1, c2, H.sX, if_false, if_true, show nI 0 = 0 from rfl, ite_self]
    · unfold mo_order fX12_order
      rw [isHearer_eq, if_neg c1, if_pos c2, if_neg (by decide), H.sM, if_pos (show nI 0 = 0 from rfl)]
  have nz : ¬ nI N = 0 := ne_lit (j := 0) (by omega) (by decide) (by omega)
  have go : ∀ k : Nat, q = nI k → (k < N ∨ k = 30 ∨ k = 31) → St (xo_order p q) (mo_order p q) h := fun k eq hk => by
    subst eq
    have hT : ∀ i : Nat, ∃ k, k ≤ 99 ∧ oT h N M n L C V p i = nI k := fun i => ama_nat
    have hW : ∀ i : Nat, ∃ k, k ≤ 99 ∧ oW h N M n L C V i = nI k := fun i => ama_nat
    obtain ⟨h1, e1, d1⟩ := orderX (t := fun i => (hT i).choose) (w := fun i => (hW i).choose) H X (by omega) c1 c2 (fun i _ => (hT i).choose_spec.1) (fun i _ => (hW i).choose_spec.1) (fun i _ => (hT i).choose_spec.2) (fun i _ => (hW i).choose_spec.2) hk
    obtain ⟨h2, e2, d2⟩ := orderM (t := fun i => (hT i).choose) (w := fun i => (hW i).choose) H X d1 (by omega) c1 c2 (fun i _ => (hT i).choose_spec.1) (fun i _ => (hW i).choose_spec.1) (fun i _ => (hT i).choose_spec.2) (fun i _ => (hW i).choose_spec.2) hk
    exact St.ro I e1 d1 e2 d2
  by_cases c30 : q = 30
  · exact go 30 c30 (Or.inr (Or.inl rfl))
  by_cases c31 : q = 31
  · exact go 31 c31 (Or.inr (Or.inr rfl))
  rcases pl_cases (N := N) (by omega) q with ⟨i, hi, e⟩ | hout
  · exact go i e (Or.inl hi)
  · refine St.ro (r := -1) I ?_ .rf ?_ .rf
    · unfold xo_order fX11_order
      dsimp only [letT]
      rw [if_neg c30, if_neg c31, if_neg c1, if_pos c2, H.sX, if_neg nz, holds_out H.sX hout, if_pos rfl, if_pos rfl]
    · unfold mo_order fX12_order
      rw [isHearer_eq, if_neg c1, if_pos c2, if_neg (by decide), H.sM, if_neg nz]
      dsimp only [letT]
      rw [if_neg c30, if_neg c31, isLine_out H.sM hout, if_pos rfl]
