/-! ===== the model reads a proof's text ===== -/
def MF1 (h g : AH) : Prop := (∀ c, c ≠ 75 → g.1 c = h.1 c) ∧ (∀ j, j ≠ 11 → j ≠ 13 → j ≠ 14 → g.1 75 j = h.1 75 j) ∧ g.2 = h.2
theorem MF1.rf {h : AH} : MF1 h h := ⟨fun _ _ => rfl, fun _ _ _ _ => rfl, rfl⟩
theorem MF1.tr {h g k : AH} (a : MF1 h g) (b : MF1 g k) : MF1 h k := ⟨fun c hc => (b.1 c hc).trans (a.1 c hc), fun j h1 h2 h3 => (b.2.1 j h1 h2 h3).trans (a.2.1 j h1 h2 h3), b.2.2.trans a.2.2⟩
theorem MF1.at {h : AH} {j : Nat} {v : Int32} (hj : j = 11 ∨ j = 13 ∨ j = 14) : MF1 h (sI h 75 j v) := by
  refine ⟨fun c hc => sI_ne h j v hc, fun i h1 h2 h3 => ?_, rfl⟩
  rw [sI_at, upd_ne _ _ (by omega)]
theorem Tm.fr {B : Nat → Int32} {n : Nat} {h g : AH} (f : MF1 h g) (t : Tm B n h) : Tm B n g := by
  unfold Tm
  rw [f.2.1 12 (by decide) (by decide) (by decide), f.1 82 (by decide)]
  exact t
section ModelReads
variable {B : Nat → Int32} {n : Nat}
theorem rb_step {fr p v d : Nat} {h : AH} {rec : AH → Option (Int32 × AH)} {K : AH → Option (Int32 × AH)} {x1 x2 : Int32} (t : Txt B n) (x : Tm B n h) (e : h.1 75 11 = nI p) (hp : p ≤ n) (e14 : h.1 75 14 = nI v) (hd : dg (B p) = some d) (lt : p < fr + 2) (hf : fr < 1000) : fX12_readsBelow_l10b rec K x1 x2 (nI fr) h = rec (sI (sI h 75 14 (nI (10 * v + d))) 75 11 (nI (p + 1))) := by
  have n200 := t.1
  unfold fX12_readsBelow_l10b
  rw [isDigit_eq t x e hp, ob, hd]
  simp only [Option.isNone, Bool.false_eq_true, if_false, d10]
  rw [e, show (2 : Int32) = nI 2 from rfl, nI_add, if_pos (nI_lt lt (by omega)), here_eq t x e hp, ob, letT_eq, letT_eq, e14, (dg_some hd).2.1, show (10 : Int32) = nI 10 from rfl, nI_mul, nI_add, show (48 : Int32) = nI 48 from rfl, nI_sub (by omega)]
  have e11 : ∀ w, (sI h 75 14 w).1 75 11 = nI p := fun w => by rw [sI_at, upd_ne _ _ (by decide)]; exact e
  rw [e11, nI_1]
  congr 3
  congr 1
  omega
theorem rb_stop {fr p : Nat} {h : AH} {rec : AH → Option (Int32 × AH)} {K : AH → Option (Int32 × AH)} {x1 x2 : Int32} (t : Txt B n) (x : Tm B n h) (e : h.1 75 11 = nI p) (hp : p ≤ n) (hd : dg (B p) = none ∨ fr + 2 ≤ p) (hf : fr < 1000) : fX12_readsBelow_l10b rec K x1 x2 (nI fr) h = K h := by
  have n200 := t.1
  unfold fX12_readsBelow_l10b
  rw [isDigit_eq t x e hp, ob]
  cases q : dg (B p) with
  | none => rfl
  | some d =>
    simp only [Option.isNone, Bool.false_eq_true, if_false, d10]
    rcases hd with z | z
    · rw [q] at z; cases z
    · rw [e, show (2 : Int32) = nI 2 from rfl, nI_add, if_neg (nI_nlt (by omega) (by omega))]
theorem below_eq {p lim flt : Nat} {h : AH} (t : Txt B n) (x : Tm B n h) (e : h.1 75 11 = nI p) (hp : p ≤ n) (hl : lim < 1000) :
    (∀ f, pNum B lim flt p = .inl f → ∃ g, fX12_readsBelow (nI lim) (nI flt) h = some (0, g) ∧ MF1 h g ∧ g.1 75 13 = -(nI f)) ∧
    ∀ v q, pNum B lim flt p = .inr (v, q) → ∃ g, fX12_readsBelow (nI lim) (nI flt) h = some (1, g) ∧ MF1 h g ∧ g.1 75 11 = nI q ∧ g.1 75 14 = nI v := by
  have n200 := t.1
  unfold fX12_readsBelow
  rw [letT_eq, e]
  have f0 : MF1 h (sI h 75 14 0) := MF1.at (Or.inr (Or.inr rfl))
  have e11 : (sI h 75 14 0).1 75 11 = nI p := by rw [sI_at, upd_ne _ _ (by decide)]; exact e
  have e14 : (sI h 75 14 0).1 75 14 = nI 0 := by rw [sI_at, upd_at]; rfl
  have x0 := x.fr f0
  generalize sI h 75 14 0 = g0 at f0 e11 e14 x0
  obtain ⟨m, hm⟩ := fuel_plus 3 (by decide)
  rw [hm]
  -- what is done behind the digits
  generalize hK : (fun (g10 : AH) => if (g10.1 75 11) = nI p then letT (fX12_wrongAt (1 : Int32) (g10.1 75 11) g10) (fun b15 => if b15.1 = 0 ∨ b15.1 = 1 then some (b15.1, b15.2) else none) else if (g10.1 75 14) < nI lim then some ((1 : Int32), g10) else letT (fX12_wrongAt (nI flt) (nI p) g10) (fun b13 => if b13.1 = 0 then some ((0 : Int32), b13.2) else some ((1 : Int32), b13.2))) = K
  have kk : ∀ (g : AH) (q v : Nat), MF1 h g → g.1 75 11 = nI q → g.1 75 14 = nI v → p < q → q < 1000 → v < 1000 → (v < lim → K g = some (1, g)) ∧ (¬ v < lim → K g = some (0, sI g 75 13 (-(nI (1000 * flt + p))))) := fun g q v _ eq ev lt lq lv => by
    rw [← hK]
    dsimp only
    rw [eq, ev, if_neg (ne_lit (by omega) (by omega) (by omega))]
    refine ⟨fun a => ?_, fun a => ?_⟩
    · rw [if_pos (nI_lt a (by omega))]
    · rw [if_neg (nI_nlt (by omega) (by omega)), wrongAt_eq, letT_eq, if_pos rfl]
  show (∀ f, pNum B lim flt p = .inl f → ∃ g, fX12_readsBelow_l10b (fX12_readsBelow_l10 K (nI lim) (nI flt) (nI p) (m + 2)) K (nI lim) (nI flt) (nI p) g0 = some (0, g) ∧ MF1 h g ∧ g.1 75 13 = -(nI f)) ∧ ∀ v q, pNum B lim flt p = .inr (v, q) → ∃ g, fX12_readsBelow_l10b (fX12_readsBelow_l10 K (nI lim) (nI flt) (nI p) (m + 2)) K (nI lim) (nI flt) (nI p) g0 = some (1, g) ∧ MF1 h g ∧ g.1 75 11 = nI q ∧ g.1 75 14 = nI v
  unfold pNum
  cases d1 : dg (B p) with
  | none =>
    rw [rb_stop t x0 e11 hp (Or.inl d1) (by omega)]
    refine ⟨fun f q => ?_, fun v q z => (by cases z)⟩
    rw [← Sum.inl.inj q, ← hK]
    dsimp only
    rw [e11, if_pos rfl, show (1 : Int32) = nI 1 from rfl, wrongAt_eq, letT_eq, if_pos (Or.inl rfl)]
    refine ⟨_, rfl, f0.tr (MF1.at (Or.inr (Or.inl rfl))), ?_⟩
    rw [sI_at, upd_at]
  | some d =>
    have b1 := (dg_some d1).1
    have l1 := t.dig d1
    rw [rb_step t x0 e11 hp e14 d1 (by omega) (by omega)]
    have f1 : MF1 h (sI (sI g0 75 14 (nI (10 * 0 + d))) 75 11 (nI (p + 1))) := (f0.tr (MF1.at (Or.inr (Or.inr rfl)))).tr (MF1.at (Or.inl rfl))
    have a11 : (sI (sI g0 75 14 (nI (10 * 0 + d))) 75 11 (nI (p + 1))).1 75 11 = nI (p + 1) := by rw [sI_at, upd_at]
    have a14 : (sI (sI g0 75 14 (nI (10 * 0 + d))) 75 11 (nI (p + 1))).1 75 14 = nI d := by rw [sI_at, upd_ne _ _ (by decide), sI_at, upd_at, Nat.mul_zero, Nat.zero_add]
    have x1 := x.fr f1
    generalize sI (sI g0 75 14 (nI (10 * 0 + d))) 75 11 (nI (p + 1)) = g1 at f1 a11 a14 x1
    show (∀ f, _ → ∃ g, fX12_readsBelow_l10b (fX12_readsBelow_l10 K (nI lim) (nI flt) (nI p) (m + 1)) K (nI lim) (nI flt) (nI p) g1 = some (0, g) ∧ MF1 h g ∧ g.1 75 13 = -(nI f)) ∧ ∀ v q, _ → ∃ g, fX12_readsBelow_l10b (fX12_readsBelow_l10 K (nI lim) (nI flt) (nI p) (m + 1)) K (nI lim) (nI flt) (nI p) g1 = some (1, g) ∧ MF1 h g ∧ g.1 75 11 = nI q ∧ g.1 75 14 = nI v
    dsimp only
    cases d2 : dg (B (p + 1)) with
    | none =>
      rw [rb_stop t x1 a11 (by omega) (Or.inl d2) (by omega)]
      obtain ⟨k1, k2⟩ := kk g1 (p + 1) d f1 a11 a14 (by omega) (by omega) (by omega)
      dsimp only
      by_cases a : d < lim
      · rw [if_pos a, k1 a]
        refine ⟨fun f q => (by cases q), fun v q z => ?_⟩
        injection Sum.inr.inj z with h1 h2
        rw [← h1, ← h2]
        exact ⟨g1, rfl, f1, a11, a14⟩
      · rw [if_neg a, k2 a]
        refine ⟨fun f q => ?_, fun v q z => (by cases z)⟩
        rw [← Sum.inl.inj q]
        refine ⟨_, rfl, f1.tr (MF1.at (Or.inr (Or.inl rfl))), ?_⟩
        rw [sI_at, upd_at]
    | some e2 =>
      have b2 := (dg_some d2).1
      have l2 := t.dig d2
      rw [rb_step t x1 a11 (by omega) a14 d2 (by omega) (by omega)]
      have f2 : MF1 h (sI (sI g1 75 14 (nI (10 * d + e2))) 75 11 (nI (p + 1 + 1))) := (f1.tr (MF1.at (Or.inr (Or.inr rfl)))).tr (MF1.at (Or.inl rfl))
      have c11 : (sI (sI g1 75 14 (nI (10 * d + e2))) 75 11 (nI (p + 1 + 1))).1 75 11 = nI (p + 2) := by rw [sI_at, upd_at]
      have c14 : (sI (sI g1 75 14 (nI (10 * d + e2))) 75 11 (nI (p + 1 + 1))).1 75 14 = nI (10 * d + e2) := by rw [sI_at, upd_ne _ _ (by decide), sI_at, upd_at]
      have x2 := x.fr f2
      generalize sI (sI g1 75 14 (nI (10 * d + e2))) 75 11 (nI (p + 1 + 1)) = g2 at f2 c11 c14 x2
      show (∀ f, _ → ∃ g, fX12_readsBelow_l10b (fX12_readsBelow_l10 K (nI lim) (nI flt) (nI p) m) K (nI lim) (nI flt) (nI p) g2 = some (0, g) ∧ MF1 h g ∧ g.1 75 13 = -(nI f)) ∧ ∀ v q, _ → ∃ g, fX12_readsBelow_l10b (fX12_readsBelow_l10 K (nI lim) (nI flt) (nI p) m) K (nI lim) (nI flt) (nI p) g2 = some (1, g) ∧ MF1 h g ∧ g.1 75 11 = nI q ∧ g.1 75 14 = nI v
      rw [rb_stop t x2 c11 (by omega) (Or.inr (Nat.le_refl _)) (by omega)]
      obtain ⟨k1, k2⟩ := kk g2 (p + 2) (10 * d + e2) f2 c11 c14 (by omega) (by omega) (by omega)
      dsimp only
      by_cases a : 10 * d + e2 < lim
      · rw [if_pos a, k1 a]
        refine ⟨fun f q => (by cases q), fun v q z => ?_⟩
        injection Sum.inr.inj z with h1 h2
        rw [← h1, ← h2]
        exact ⟨g2, rfl, f2, c11, c14⟩
      · rw [if_neg a, k2 a]
        refine ⟨fun f q => ?_, fun v q z => (by cases z)⟩
        rw [← Sum.inl.inj q]
        refine ⟨_, rfl, f2.tr (MF1.at (Or.inr (Or.inl rfl))), ?_⟩
        rw [sI_at, upd_at]
end ModelReads
