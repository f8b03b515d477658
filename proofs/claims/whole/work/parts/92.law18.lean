section ModelLawLoop
variable {B : Nat → Int32} {n : Nat}
theorem lawM {K : Int32 → AH → Option (Int32 × AH)} (t : Txt B n) : ∀ (k p m : Nat) (l : List Cla) (A : Cd) (h : AH), l.length + k = 15 → l.length ≤ 14 → k < m → St4 B n p A h → A.length ≤ p → LawMc h l →
    (∀ f, pLaw B n k p l A = .inl f → ∃ g, (fX12_readsClause h).bind (fun b7 => fX12_law_l46 K m b7.1 b7.2) = K 0 g ∧ LCf h g ∧ g.1 75 13 = -(nI f)) ∧
    ∀ l' A', pLaw B n k p l A = .inr (l', A') → ∃ g, (fX12_readsClause h).bind (fun b7 => fX12_law_l46 K m b7.1 b7.2) = K 1 g ∧ LCf h g ∧ CodM g A' ∧ LawMc g l' ∧ l'.length ≤ 14 ∧ 0 < l'.length ∧ A'.length ≤ 200 := by
  have n200 := t.1
  intro k
  induction k with
  | zero => intro p m l A h h1 h2; omega
  | succ k ih =>
    intro p m l A h h1 h2 h3 s hA hM
    obtain ⟨m, rfl⟩ : ∃ m', m = m' + 1 := ⟨m - 1, by omega⟩
    obtain ⟨i1, i2⟩ := clauseM t s hA h2 hM
    have un : ∀ x g, fX12_law_l46 K (m + 1) x g = fX12_law_l46b (fX12_law_l46 K m) K x g := fun _ _ => rfl
    have un0 : ∀ g m', fX12_law_l46 K (m' + 1) 0 g = K 0 g := fun g m' => by
      show fX12_law_l46b (fX12_law_l46 K m') K 0 g = _
      unfold fX12_law_l46b
      rw [if_pos rfl]
    unfold pLaw
    cases ec : pCla B l.length p A with
    | inl f0 =>
      obtain ⟨g, a1, a2, a3⟩ := i1 f0 ec
      rw [a1, ob, un0]
      refine ⟨fun f z => ?_, fun l' A' z => (by cases z)⟩
      rw [← Sum.inl.inj z]
      exact ⟨g, rfl, a2, a3⟩
    | inr x =>
      obtain ⟨c, A1, q⟩ := x
      obtain ⟨g, a1, a2, a3, a4⟩ := i2 c A1 q ec
      obtain ⟨y1, y2, y3, y4, y5, y6, -⟩ := pCla_ok t ec
      have ll : (l ++ [c]).length = l.length + 1 := by rw [List.length_append]; rfl
      have e12 : g.1 75 12 = nI n := a3.1.1
      rw [a1, ob]
      dsimp only
      rw [un]
      unfold fX12_law_l46b
      rw [if_neg d10', a3.2.1, e12]
      by_cases qn : q = n
      · rw [if_pos qn, if_neg (nI_nlt (by omega) (by omega))]
        refine ⟨fun f z => (by cases z), fun l' A' z => ?_⟩
        injection Sum.inr.inj z with z1 z2
        subst z1 z2
        exact ⟨g, rfl, a2, a3.2.2.2, a4, by omega, by omega, by omega⟩
      · rw [if_neg qn, if_pos (nI_lt (by omega) (by omega))]
        obtain ⟨t1, t2⟩ := takes_eq (k := 59) t a3.1 a3.2.1 y4
        rw [show nI 59 = 59 from rfl] at t1 t2
        obtain ⟨m, rfl⟩ : ∃ m', m = m' + 1 := ⟨m - 1, by omega⟩
        by_cases c59 : B q = nI 59
        · rw [t1 c59, ob, if_neg d10', if_pos c59]
          have f2 : LCf g (sI g 75 11 (nI (q + 1))) := LCf.at (by decide)
          have qn' := t.lit (by decide) c59
          have s2 : St4 B n (q + 1) A1 (sI g 75 11 (nI (q + 1))) := by
            refine ⟨a3.1.frC f2, by rw [sI_at, upd_at], by omega, ?_⟩
            unfold CodM
            rw [sI_at, upd_ne _ _ (by decide), sI_ne _ _ _ (by decide)]
            exact a3.2.2.2
          have m2 : LawMc (sI g 75 11 (nI (q + 1))) (l ++ [c]) := by
            unfold LawMc
            rw [sI_at, upd_ne _ _ (by decide), sI_ne _ _ _ (by decide), sI_ne _ _ _ (by decide), sI_ne _ _ _ (by decide), sI_ne _ _ _ (by decide)]
            exact a4
          dsimp only
          generalize sI g 75 11 (nI (q + 1)) = g2 at f2 s2 m2
          obtain ⟨j1, j2⟩ := ih (q + 1) (m + 1) (l ++ [c]) A1 g2 (by omega) (by omega) (by omega) s2 (by omega) m2
          have er : (fX12_readsClause g2).bind (fun b14 => if b14.1 = 0 then fX12_law_l46 K (m + 1) 0 b14.2 else fX12_law_l46 K (m + 1) 1 b14.2) = (fX12_readsClause g2).bind (fun b7 => fX12_law_l46 K (m + 1) b7.1 b7.2) := by
            obtain ⟨u1, u2⟩ := clauseM t s2 (by omega) (by omega) m2
            cases ec2 : pCla B (l ++ [c]).length (q + 1) A1 with
            | inl f0 =>
              obtain ⟨g3, v1, -⟩ := u1 f0 ec2
              rw [v1, ob, ob, if_pos rfl]
            | inr x =>
              obtain ⟨g3, v1, -⟩ := u2 _ _ _ ec2
              rw [v1, ob, ob, if_neg d10']
          rw [er]
          refine ⟨fun f z => ?_, fun l' A' z => ?_⟩
          · obtain ⟨g3, v1, v2, v3⟩ := j1 f z
            exact ⟨g3, v1, (a2.tr f2).tr v2, v3⟩
          · obtain ⟨g3, v1, v2, v3⟩ := j2 l' A' z
            exact ⟨g3, v1, (a2.tr f2).tr v2, v3⟩
        · rw [t2 c59, ob, if_pos rfl, if_neg c59, un0]
          refine ⟨fun f z => ?_, fun l' A' z => (by cases z)⟩
          rw [← Sum.inl.inj z]
          exact ⟨_, rfl, a2.tr (LCf.at (by decide)), by rw [sI_at, upd_at]⟩
theorem lawM138 {N : Nat} {g : AH} (hs : g.1 75 27 = nI N) (hN : N ≤ 14) : ∃ g', fX12_law_l138 fuel0 0 g = some (nI N, g') ∧ (∀ i, i < N → g'.1 98 i = g.1 93 i ∧ g'.1 99 i = g.1 94 i ∧ g'.1 100 i = g.1 95 i ∧ g'.1 101 i = g.1 96 i) ∧ ∀ c, c < 98 ∨ 101 < c → g'.1 c = g.1 c := by
  obtain ⟨g', e, q1, q2⟩ := for_ex (F := fun m xx g' => fX12_law_l138 m xx g') (fun g' => some (nI N, g')) N (by omega) (fun k g' => (∀ i, i < k → g'.1 98 i = g.1 93 i ∧ g'.1 99 i = g.1 94 i ∧ g'.1 100 i = g.1 95 i ∧ g'.1 101 i = g.1 96 i) ∧ ∀ c, c < 98 ∨ 101 < c → g'.1 c = g.1 c) (fun m k g' hk hI => by
      obtain ⟨q1, q2⟩ := hI
      show ∃ s', fX12_law_l138b (fX12_law_l138 m) (nI k) g' = _ ∧ _
      unfold fX12_law_l138b
      have gk := gd (show k < 14 by omega) (show 14 ≤ 4000 by decide)
      rw [q2 75 (by omega), hs, if_pos (nI_lt hk (by omega))]
      simp only [gk, if_false, letT_eq]
      rw [nI_clamp (by omega), nI_1]
      have r84 : ∀ v, (sI g' 98 k v).1 94 = g'.1 94 := fun v => sI_ne _ _ _ (by decide)
      have r85 : ∀ v w, (sI (sI g' 98 k v) 99 k w).1 95 = g'.1 95 := fun v w => by rw [sI_ne _ _ _ (by decide), sI_ne _ _ _ (by decide)]
      have r86 : ∀ v w z, (sI (sI (sI g' 98 k v) 99 k w) 100 k z).1 96 = g'.1 96 := fun v w z => by rw [sI_ne _ _ _ (by decide), sI_ne _ _ _ (by decide), sI_ne _ _ _ (by decide)]
      rw [r84, r85, r86, q2 93 (by omega), q2 94 (by omega), q2 95 (by omega), q2 96 (by omega)]
      refine ⟨_, rfl, fun i hi => ?_, fun c hc => ?_⟩
      · have c77 : (sI (sI (sI (sI g' 98 k (g.1 93 k)) 99 k (g.1 94 k)) 100 k (g.1 95 k)) 101 k (g.1 96 k)).1 98 = upd (g'.1 98) k (g.1 93 k) := by rw [sI_ne _ _ _ (by decide), sI_ne _ _ _ (by decide), sI_ne _ _ _ (by decide), sI_at]
        have c78 : (sI (sI (sI (sI g' 98 k (g.1 93 k)) 99 k (g.1 94 k)) 100 k (g.1 95 k)) 101 k (g.1 96 k)).1 99 = upd (g'.1 99) k (g.1 94 k) := by rw [sI_ne _ _ _ (by decide), sI_ne _ _ _ (by decide), sI_at, sI_ne _ _ _ (by decide)]
        have c79 : (sI (sI (sI (sI g' 98 k (g.1 93 k)) 99 k (g.1 94 k)) 100 k (g.1 95 k)) 101 k (g.1 96 k)).1 100 = upd (g'.1 100) k (g.1 95 k) := by rw [sI_ne _ _ _ (by decide), sI_at, sI_ne _ _ _ (by decide), sI_ne _ _ _ (by decide)]
        have c80 : (sI (sI (sI (sI g' 98 k (g.1 93 k)) 99 k (g.1 94 k)) 100 k (g.1 95 k)) 101 k (g.1 96 k)).1 101 = upd (g'.1 101) k (g.1 96 k) := by rw [sI_at, sI_ne _ _ _ (by decide), sI_ne _ _ _ (by decide), sI_ne _ _ _ (by decide)]
        rw [c77, c78, c79, c80]
        by_cases e : i = k
        · rw [e, upd_at, upd_at, upd_at, upd_at]; exact ⟨rfl, rfl, rfl, rfl⟩
        · rw [upd_ne _ _ e, upd_ne _ _ e, upd_ne _ _ e, upd_ne _ _ e]; exact q1 i (by omega)
      · rw [sI_ne _ _ _ (by omega), sI_ne _ _ _ (by omega), sI_ne _ _ _ (by omega), sI_ne _ _ _ (by omega)]
        exact q2 c hc) (fun m g' hI => by
      show fX12_law_l138b (fX12_law_l138 m) (nI N) g' = _
      unfold fX12_law_l138b
      rw [hI.2 75 (by omega), hs, if_neg (nI_nlt (Nat.le_refl _) (by omega))]) fuel0 0 g (by omega) (by have := fuel_big; omega) ⟨fun i hi => absurd hi (Nat.not_lt_zero _), fun _ _ => rfl⟩
  exact ⟨g', e, q1, q2⟩
theorem lawM110 {K : AH → Option (Int32 × AH)} {N : Nat} {g : AH} (hs : g.1 75 25 = nI N) (hN : N ≤ 200) : ∃ g', fX12_law_l110 K fuel0 0 g = K g' ∧ (∀ i, i < N → g'.1 97 i = g.1 91 i) ∧ ∀ c, c ≠ 97 → g'.1 c = g.1 c := by
  obtain ⟨g', e, q1, q2⟩ := for_ex (F := fun m xx g' => fX12_law_l110 K m xx g') (fun g' => K g') N (by omega) (fun k g' => (∀ i, i < k → g'.1 97 i = g.1 91 i) ∧ ∀ c, c ≠ 97 → g'.1 c = g.1 c) (fun m k g' hk hI => by
      obtain ⟨q1, q2⟩ := hI
      show ∃ s', fX12_law_l110b (fX12_law_l110 K m) K (nI k) g' = _ ∧ _
      unfold fX12_law_l110b
      have gk := gd (show k < 220 by omega) (show 220 ≤ 4000 by decide)
      rw [q2 75 (by decide), hs, if_pos (nI_lt hk (by omega)), if_neg gk, if_neg gk, nI_clamp (by omega), nI_1, letT_eq, q2 91 (by decide)]
      refine ⟨_, rfl, fun i hi => ?_, fun c hc => ?_⟩
      · rw [sI_at]
        by_cases e : i = k
        · rw [e, upd_at]
        · rw [upd_ne _ _ e]; exact q1 i (by omega)
      · rw [sI_ne _ _ _ hc]
        exact q2 c hc) (fun m g' hI => by
      show fX12_law_l110b (fX12_law_l110 K m) K (nI N) g' = _
      unfold fX12_law_l110b
      rw [hI.2 75 (by decide), hs, if_neg (nI_nlt (Nat.le_refl _) (by omega))]) fuel0 0 g (by omega) (by have := fuel_big; omega) ⟨fun i hi => absurd hi (Nat.not_lt_zero _), fun _ _ => rfl⟩
  exact ⟨g', e, q1, q2⟩
end ModelLawLoop
