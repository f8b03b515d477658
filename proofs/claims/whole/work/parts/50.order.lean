/-! ===== order ===== -/
def oT (h : AH) (N M n : Nat) (L : Nat → Int32) (C V : Nat → Rw → Int32) (he : Int32) (i : Nat) : Int32 := ama n L C V 116 99 (ffc h N M i (h.1 7 i) he)
def oW (h : AH) (N M n : Nat) (L : Nat → Int32) (C V : Nat → Rw → Int32) (i : Nat) : Int32 := ama n L C V 119 99 (ffc h N M i (h.1 7 i) 0)
theorem ama_nat {n : Nat} {L : Nat → Int32} {C V : Nat → Rw → Int32} {l : Int32} {f : Rw} : ∃ k, k ≤ 99 ∧ ama n L C V l 99 f = nI k := by
  unfold ama
  cases fst (rdQ L C l f) 0 n with
  | none => exact ⟨0, by omega, rfl⟩
  | some q =>
    show ∃ k, k ≤ 99 ∧ clp (V q f) 99 = nI k
    unfold clp
    by_cases a : V q f < 0
    · rw [if_pos a]; exact ⟨0, by omega, rfl⟩
    · rw [if_neg a]
      by_cases b : (99 : Int32) < V q f
      · rw [if_pos b]; exact ⟨99, by omega, rfl⟩
      · rw [if_neg b]
        obtain ⟨k, hk, e⟩ := nI_of a
        refine ⟨k, ?_, e⟩
        by_cases q : k ≤ 99
        · exact q
        · rw [e] at b
          exact absurd (nI_lt (a := 99) (b := k) (by omega) hk) b
theorem order70 {N M x n : Nat} {h : AH} {he p2 w : Int32} {L : Nat → Int32} {C V : Nat → Rw → Int32} {K : AH → Option (Int64 × AH)} (H : ScN N M x h) (X : Lx h n L C V) : ∃ g, fX11_order_l70 K he p2 w fuel0 0 h = K g ∧ Core h g ∧ ∀ i, i < N → g.1 68 i = oT h N M n L C V he i ∧ g.1 69 i = oW h N M n L C V i := by
  have hN := H.N
  obtain ⟨g, e, q⟩ := for_ex (F := fun m xx g => fX11_order_l70 K he p2 w m xx g) K N (by omega) (fun k g => Core h g ∧ ∀ i, i < k → g.1 68 i = oT h N M n L C V he i ∧ g.1 69 i = oW h N M n L C V i) (fun m k g hk hI => by
      obtain ⟨cg, q⟩ := hI
      show ∃ s', fX11_order_l70b (fX11_order_l70 K he p2 w m) K he p2 w (nI k) g = _ ∧ _
      unfold fX11_order_l70b
      dsimp only [letT]
      obtain ⟨g1, e1, f1⟩ := amountAt_eq (l := 116) (he := he) H X cg hk (Or.inl rfl)
      rw [if_neg (by decide)] at e1
      rw [(H.core cg).sX, if_pos (nI_lt hk (by omega)), e1, ob, put_in (show k < aln 68 by show _ < 20; omega)]
      dsimp only
      have c2 : Core h (sI g1 68 k (ama n L C V 116 99 (ffc h N M k (h.1 7 k) he))) := (cg.tr f1.core).tr (Core.sR (a := 68) rfl)
      obtain ⟨g2, e2, f2⟩ := amountAt_eq (l := 119) (he := 0) H X c2 hk (Or.inr (Or.inl rfl))
      rw [if_neg (by decide)] at e2
      rw [e2, ob, put_in (show k < aln 69 by show _ < 20; omega), nI_1]
      refine ⟨_, rfl, (c2.tr f2.core).tr (Core.sR (a := 69) rfl), fun i hi => ?_⟩
      show g2.1 68 i = _ ∧ upd (g2.1 69) k _ i = _
      rw [f2.1 68 (by decide) (by decide) (by decide), f2.1 69 (by decide) (by decide) (by decide)]
      show upd (g1.1 68) k _ i = _ ∧ upd (g1.1 69) k _ i = _
      rw [f1.1 68 (by decide) (by decide) (by decide), f1.1 69 (by decide) (by decide) (by decide)]
      by_cases ei : i = k
      · rw [ei, upd_at, upd_at]
        exact ⟨rfl, rfl⟩
      · rw [upd_ne _ _ ei, upd_ne _ _ ei]
        exact q i (by omega)) (fun m g hI => by
      show fX11_order_l70b (fX11_order_l70 K he p2 w m) K he p2 w (nI N) g = _
      unfold fX11_order_l70b
      rw [(H.core hI.1).sX, if_neg (nI_nlt (Nat.le_refl _) (by omega))]) fuel0 0 h (by omega) (by have := fuel_big; omega) ⟨.rf, fun i hi => absurd hi (Nat.not_lt_zero _)⟩
  exact ⟨g, e, q⟩
theorem lays2 {N M x n : Nat} {h h1 : AH} {he : Int32} {L : Nat → Int32} {C V : Nat → Rw → Int32} {K : AH → Option AH} (H : ScN N M x h) (X : Lx h n L C V) (c1 : Core h h1) : ∃ g, fX12_laysOrder_l2 K he fuel0 0 h1 = K g ∧ Core h1 g ∧ ∀ i, i < N → g.1 106 i = oT h N M n L C V he i ∧ g.1 107 i = oW h N M n L C V i := by
  have hN := H.N
  obtain ⟨g, e, q⟩ := for_ex (F := fun m xx g => fX12_laysOrder_l2 K he m xx g) K N (by omega) (fun k g => Core h1 g ∧ ∀ i, i < k → g.1 106 i = oT h N M n L C V he i ∧ g.1 107 i = oW h N M n L C V i) (fun m k g hk hI => by
      obtain ⟨cg, q⟩ := hI
      have cgg := c1.tr cg
      have gk := gd (show k < 20 by omega) (by decide)
      show ∃ s', fX12_laysOrder_l2b (fX12_laysOrder_l2 K he m) K he (nI k) g = _ ∧ _
      unfold fX12_laysOrder_l2b
      dsimp only [letT]
      obtain ⟨g1, e1, f1⟩ := minutesOf_eq (he := he) H X cgg hk
      have c2 : Core h (sI g1 106 k (ama n L C V 116 99 (ffc h N M k (h.1 7 k) he))) := (cgg.tr f1.core).tr (Core.sR (a := 106) rfl)
      obtain ⟨g2, e2, f2, q2⟩ := feels_eq (cl := h.1 7 k) (he := 0) H c2 hk
      obtain ⟨g3, e3, f3⟩ := byLaw_eq (l := 119) (m := 99) X (c2.tr f2.core) q2 (by decide)
      have f23 := f2.tr f3.1
      have e77 : (sI g1 106 k (ama n L C V 116 99 (ffc h N M k (h.1 7 k) he))).1 77 k = h.1 7 k := by
        rw [c2.C 77 (by decide)]
        exact (H.C k hk).symm
      rw [(H.core cgg).sM, if_pos (nI_lt hk (by omega)), e1, ob, if_neg gk, if_neg gk]
      dsimp only
      rw [nI_clamp (by omega), e77, e2, ob, e3, ob, nI_1]
      have gk' : ¬ (nI k < 0 ∨ 20 ≤ k) := fun q => q.elim (nI_pos (by omega)) (fun q => by omega)
      rw [if_neg gk']
      refine ⟨_, rfl, ((cg.tr f1.core).tr (Core.sR (a := 106) rfl)).tr (f23.core.tr (Core.sR (a := 107) rfl)), fun i hi => ?_⟩
      show g3.1 106 i = _ ∧ upd (g3.1 107) k _ i = _
      rw [f23 106 (by decide) (by decide) (by decide), f23 107 (by decide) (by decide) (by decide)]
      show upd (g1.1 106) k _ i = _ ∧ upd (g1.1 107) k _ i = _
      rw [f1 106 (by decide) (by decide) (by decide), f1 107 (by decide) (by decide) (by decide)]
      by_cases ei : i = k
      · rw [ei, upd_at, upd_at]
        exact ⟨rfl, rfl⟩
      · rw [upd_ne _ _ ei, upd_ne _ _ ei]
        exact q i (by omega)) (fun m g hI => by
      show fX12_laysOrder_l2b (fX12_laysOrder_l2 K he m) K he (nI N) g = _
      unfold fX12_laysOrder_l2b
      rw [(H.core (c1.tr hI.1)).sM, if_neg (nI_nlt (Nat.le_refl _) (by omega))]) fuel0 0 h1 (by omega) (by have := fuel_big; omega) ⟨.rf, fun i hi => absurd hi (Nat.not_lt_zero _)⟩
  exact ⟨g, e, q⟩
/-- m is to be before l -/
def btr (t w : Nat → Nat) (m l : Nat) : Bool := decide (t m * w l < t l * w m)
/-- of lines that are left one may be next -/
theorem next_ex {t w : Nat → Nat} {p : Nat → Bool} : ∀ k, (∀ m, m < k → p m = true → w m = 0) ∨ ∃ l, l < k ∧ p l = true ∧ 0 < w l ∧ ∀ m, m < k → p m = true → ¬ t m * w l < t l * w m := by
  intro k
  induction k with
  | zero => exact Or.inl (fun m hm => absurd hm (Nat.not_lt_zero _))
  | succ k ih =>
    by_cases hp : p k = true
    · by_cases hw : w k = 0
      · rcases ih with ih | ⟨l, l1, l2, l3, l4⟩
        · left
          intro m hm hpm
          by_cases e : m = k
          · rw [e]; exact hw
          · exact ih m (by omega) hpm
        · right
          refine ⟨l, by omega, l2, l3, fun m hm hpm => ?_⟩
          by_cases e : m = k
          · rw [e, hw, Nat.mul_zero]
            exact Nat.not_lt_zero _
          · exact l4 m (by omega) hpm
      · rcases ih with ih | ⟨l, l1, l2, l3, l4⟩
        · right
          refine ⟨k, by omega, hp, by omega, fun m hm hpm => ?_⟩
          by_cases e : m = k
          · rw [e]; exact Nat.lt_irrefl _
          · rw [ih m (by omega) hpm, Nat.mul_zero]
            exact Nat.not_lt_zero _
        · right
          by_cases b : t k * w l < t l * w k
          · refine ⟨k, by omega, hp, by omega, fun m hm hpm hlt => ?_⟩
            by_cases e : m = k
            · rw [e] at hlt; exact Nat.lt_irrefl _ hlt
            · have h4 := l4 m (by omega) hpm
              by_cases wm : w m = 0
              · rw [wm, Nat.mul_zero] at hlt
                exact Nat.not_lt_zero _ hlt
              · have a1 : t m * w k * w l < t k * w m * w l := Nat.mul_lt_mul_of_pos_right hlt l3
                have a2 : t k * w l * w m < t l * w k * w m := Nat.mul_lt_mul_of_pos_right b (by omega)
                have a3 : t m * w l * w k < t l * w m * w k := by
                  rw [Nat.mul_right_comm (t m), Nat.mul_right_comm (t l)]
                  rw [Nat.mul_right_comm (t k)] at a1
                  omega
                exact h4 (Nat.lt_of_mul_lt_mul_right a3)
          · refine ⟨l, by omega, l2, l3, fun m hm hpm => ?_⟩
            by_cases e : m = k
            · rw [e]; exact b
            · exact l4 m (by omega) hpm
    · rcases ih with ih | ⟨l, l1, l2, l3, l4⟩
      · left
        intro m hm hpm
        by_cases e : m = k
        · rw [e] at hpm; exact absurd hpm hp
        · exact ih m (by omega) hpm
      · right
        refine ⟨l, by omega, l2, l3, fun m hm hpm => ?_⟩
        by_cases e : m = k
        · rw [e] at hpm; exact absurd hpm hp
        · exact l4 m (by omega) hpm
/-- the lowest that may be next -/
def nxP (t w : Nat → Nat) (N : Nat) (p : Nat → Bool) (l : Nat) : Bool := p l && (fst (fun m => p m && btr t w m l) 0 N).isNone
theorem nx_ex {t w : Nat → Nat} {N : Nat} {p : Nat → Bool} (hp : ∃ l, l < N ∧ p l = true) : ∃ l, fst (nxP t w N p) 0 N = some l := by
  have key : ∃ l, l < N ∧ nxP t w N p l = true := by
    rcases next_ex (t := t) (w := w) (p := p) N with h | ⟨l, l1, l2, l3, l4⟩
    · obtain ⟨l, hl, hpl⟩ := hp
      refine ⟨l, hl, ?_⟩
      unfold nxP
      rw [hpl, fst_nil (fun m _ hm => ?_)]
      · rfl
      · cases hpm : p m with
        | false => rfl
        | true =>
          unfold btr
          rw [h m (by omega) hpm, h l hl hpl]
          simp
    · refine ⟨l, l1, ?_⟩
      unfold nxP
      rw [l2, fst_nil (fun m _ hm => ?_)]
      · rfl
      · cases hpm : p m with
        | false => rfl
        | true => exact decide_eq_false (l4 m (by omega) hpm)
  obtain ⟨l, hl, hq⟩ := key
  cases h : fst (nxP t w N p) 0 N with
  | some j => exact ⟨j, rfl⟩
  | none =>
    have := fst_none h l (Nat.zero_le _) (by omega)
    rw [hq] at this
    cases this
