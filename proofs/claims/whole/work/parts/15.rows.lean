/-! ===== the rows that both sides work on ===== -/
def offX (a : Nat) : Prop := a ≠ 3 ∧ a ≠ 4 ∧ a ≠ 6 ∧ a ≠ 8 ∧ a ≠ 9 ∧ a ≠ 10
def offM (a : Nat) : Prop := a ≠ 75 ∧ a ≠ 76 ∧ a ≠ 78 ∧ a ≠ 79 ∧ a ≠ 80
theorem WX.sR {N M a : Nat} {h : AH} {r : Rw} (w : WX N M h) (ha : offX a) : WX N M (sR h a r) := by
  obtain ⟨h1, h2, h3, h4, h5, h6⟩ := ha
  unfold WX
  rw [sR_ne h r h1.symm, sR_ne h r h2.symm, sR_ne h r h3.symm, sR_ne h r h4.symm, sR_ne h r h5.symm, sR_ne h r h6.symm]
  exact w
theorem mX_sR {a : Nat} {h : AH} {r : Rw} (ha : offX a) : mX (sR h a r) = mX h := by
  obtain ⟨h1, h2, h3, h4, h5, h6⟩ := ha
  unfold mX
  rw [sR_ne h r h1.symm, sR_ne h r h2.symm, sR_ne h r h4.symm, sR_ne h r h5.symm, sR_ne h r h6.symm]
theorem WM.sR {N M a : Nat} {h : AH} {r : Rw} (w : WM N M h) (ha : offM a) : WM N M (sR h a r) := by
  obtain ⟨h1, h2, h3, h4, h5⟩ := ha
  unfold WM
  rw [sR_ne h r h1.symm, sR_ne h r h2.symm, sR_ne h r h3.symm, sR_ne h r h4.symm, sR_ne h r h5.symm]
  exact w
theorem mM_sR {a : Nat} {h : AH} {r : Rw} (ha : offM a) : mM (sR h a r) = mM h := by
  obtain ⟨h1, h2, h3, h4, h5⟩ := ha
  unfold mM
  rw [sR_ne h r h1.symm, sR_ne h r h2.symm, sR_ne h r h3.symm, sR_ne h r h4.symm, sR_ne h r h5.symm]
theorem sI_R (h : AH) (a j : Nat) (r : Rw) (v : Int32) : sI (sR h a r) a j v = sR h a (upd r j v) := by
  rw [sI_sR, sR_at, sR_sR]
theorem WX.N {N M : Nat} {h : AH} (w : WX N M h) : N ≤ 20 := w.2.1
theorem WM.N {N M : Nat} {h : AH} (w : WM N M h) : N ≤ 20 := w.2.1
theorem mX_ahead {N M : Nat} {h : AH} (w : WX N M h) : ∀ i, i < N → ∀ r r', eqOn i r r' → mX h r i = mX h r' i := fun i hi _ _ e => mk_row (w.2.2.2.2.2.2 i hi) e
theorem mM_ahead {N M : Nat} {h : AH} (w : WM N M h) : ∀ i, i < N → ∀ r r', eqOn i r r' → mM h r i = mM h r' i := fun i hi _ _ e => mk_row (w.2.2.2.2.2.2 i hi) e
/-- the class: lines from k on worked on -/
theorem workOn_eq {N M a k : Nat} {h : AH} (w : WX N M h) (ha : offX a) (hl : 20 ≤ aln a) (hk : k ≤ N) : fX9_workOn (nI k) a h = some (sR h a (wk (mX h) k (N - k) (h.1 a))) := by
  have hN := w.N
  have key : ∀ (n k : Nat) (r : Rw), k ≤ N → N - k < n → fX9_workOn_l2 a n (nI k) (sR h a r) = some (sR h a (wk (mX h) k (N - k) r)) := by
    refine for_up0 (F := fun n x r => fX9_workOn_l2 a n x (sR h a r)) (fun k r => upd r k (mX h r k)) (fun r => some (sR h a r)) N (by omega) (fun n k r hkN => ?_) (fun n r => ?_)
    · show fX9_workOn_l2b a (fX9_workOn_l2 a n) (nI k) (sR h a r) = _
      unfold fX9_workOn_l2b
      rw [(w.sR (r := r) ha).1, if_pos (nI_lt hkN (by omega)), made_eq (w.sR (r := r) ha) hkN hl, put_in (by omega), nI_1, mX_sR ha, sR_at, sI_R]
      rfl
    · show fX9_workOn_l2b a (fX9_workOn_l2 a n) (nI N) (sR h a r) = _
      unfold fX9_workOn_l2b
      rw [(w.sR (r := r) ha).1, if_neg (nI_nlt (Nat.le_refl _) (by omega))]
  have h1 := key fuel0 k (h.1 a) hk (by have := fuel_big; omega)
  rw [sR_self] at h1
  exact h1
/-- the class: a row copied to another -/
theorem copyRow_eq {a b : Nat} {h : AH} (hab : a ≠ b) : fX11_copyRow a b h = some (sR h b (fun i => if i < min (aln a) (aln b) then h.1 a i else h.1 b i)) := by
  have ha := aln_small a
  have hb := aln_small b
  have key : ∀ (n k : Nat) (_ : Unit), k ≤ min (aln a) (aln b) → min (aln a) (aln b) - k < n → fX11_copyRow_l2 a b n (nI k) (sR h b (fun i => if i < k then h.1 a i else h.1 b i)) = some (sR h b (fun i => if i < min (aln a) (aln b) then h.1 a i else h.1 b i)) := by
    intro n
    induction n with
    | zero => intro k _ _ h; exact absurd h (Nat.not_lt_zero _)
    | succ n ih =>
      intro k u hk hn
      show fX11_copyRow_l2b a b (fX11_copyRow_l2 a b n) (nI k) _ = _
      unfold fX11_copyRow_l2b
      by_cases e : k = min (aln a) (aln b)
      · have hno : ¬ (nI k < Int32.ofNat (aln a)) ∨ ¬ (nI k < Int32.ofNat (aln b)) := by
          by_cases h1 : aln a ≤ aln b
          · exact Or.inl (nI_nlt (by omega) (by omega))
          · exact Or.inr (nI_nlt (by omega) (by omega))
        rcases hno with h1 | h1
        · rw [if_neg h1, e]
        · by_cases h2 : nI k < Int32.ofNat (aln a)
          · rw [if_pos h2, if_neg h1, e]
          · rw [if_neg h2, e]
      · have h1 : k < aln a := by omega
        have h2 : k < aln b := by omega
        rw [if_pos (show nI k < Int32.ofNat (aln a) from nI_lt h1 (by omega)), if_pos (show nI k < Int32.ofNat (aln b) from nI_lt h2 (by omega)), if_neg (gd h1 (by omega)), if_neg (gd h2 (by omega)), nI_1, nI_clamp (by omega), sI_R, sR_ne _ _ hab]
        have er : upd (fun i => if i < k then h.1 a i else h.1 b i) k (h.1 a k) = (fun i => if i < k + 1 then h.1 a i else h.1 b i) := by
          funext i
          by_cases hi : i = k
          · rw [hi, upd_at, if_pos (by omega)]
          · rw [upd_ne _ _ hi]
            by_cases h3 : i < k
            · rw [if_pos h3, if_pos (by omega)]
            · rw [if_neg h3, if_neg (by omega)]
        rw [er]
        exact ih (k + 1) u (by omega) (by omega)
  have h1 := key fuel0 0 () (by omega) (by have := fuel_big; omega)
  have e0 : sR h b (fun i => if i < 0 then h.1 a i else h.1 b i) = h := by
    have : (fun i => if i < 0 then h.1 a i else h.1 b i) = h.1 b := by funext i; exact if_neg (Nat.not_lt_zero i)
    rw [this, sR_self]
  rw [e0] at h1
  exact h1
/-- the model: the truth's row -/
theorem laysTruth_eq {N M : Nat} {h : AH} (w : WM N M h) : fX12_laysTruth h = some (sR h 87 (wk (mM h) 0 N (h.1 87))) := by
  have hN := w.N
  have ha : offM 87 := by unfold offM; omega
  have key : ∀ (n k : Nat) (r : Rw), k ≤ N → N - k < n → fX12_laysTruth_l2 n (nI k) (sR h 87 r) = some (sR h 87 (wk (mM h) k (N - k) r)) := by
    refine for_up0 (F := fun n x r => fX12_laysTruth_l2 n x (sR h 87 r)) (fun k r => upd r k (mM h r k)) (fun r => some (sR h 87 r)) N (by omega) (fun n k r hkN => ?_) (fun n r => ?_)
    · show fX12_laysTruth_l2b (fX12_laysTruth_l2 n) (nI k) (sR h 87 r) = _
      unfold fX12_laysTruth_l2b
      rw [(w.sR (r := r) ha).1, if_pos (nI_lt hkN (by omega)), makes_eq (w.sR (r := r) ha) hkN (by decide)]
      show (if nI k < 0 ∨ 20 ≤ (nI k).toNatClampNeg then none else letT (sI (sR h 87 r) 87 (nI k).toNatClampNeg (mM (sR h 87 r) ((sR h 87 r).1 87) k)) (fun g5 => fX12_laysTruth_l2 n (nI k + 1) g5)) = _
      rw [if_neg (gd (show k < 20 by omega) (by omega)), nI_1, nI_clamp (by omega), mM_sR ha, sR_at, sI_R]
      rfl
    · show fX12_laysTruth_l2b (fX12_laysTruth_l2 n) (nI N) (sR h 87 r) = _
      unfold fX12_laysTruth_l2b
      rw [(w.sR (r := r) ha).1, if_neg (nI_nlt (Nat.le_refl _) (by omega))]
  have h1 := key fuel0 0 (h.1 87) (by omega) (by have := fuel_big; omega)
  rw [sR_self] at h1
  exact h1
