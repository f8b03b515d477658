/-- what stands when all copies are taken -/
def Tkn (h g : AH) (B : Rw) (M N k : Nat) : Prop := g.1 71 3 = nI k ∧ g.1 71 4 = nI N ∧ Fg (g.1 71 5) (∀ c, c < k → ∀ j, j < N → clm M (B (c * N + j))) ∧ TkD h g B N k
theorem takeFrom_eq {N M x k : Nat} {h : AH} {B : Rw} (H : ScN N M x h) (hk : k ≤ 5) (hkN : k * N ≤ 220) (eB : h.1 2 = B) : ∃ g', fX1_takeFrom 2 (nI k) h = some g' ∧ Core h g' ∧ Tkn h g' B M N k := by
  have hN := H.N
  unfold fX1_takeFrom
  dsimp only [letT]
  have e6 : (sI h 71 3 (nI k)).1 6 0 = nI N := H.sX
  rw [e6]
  have c0 : Core h (sI (sI (sI h 71 3 (nI k)) 71 4 (nI N)) 71 5 1) := ((Core.sR (a := 71) rfl).tr (Core.sR (a := 71) rfl)).tr (Core.sR (a := 71) rfl)
  have e3 : (sI (sI (sI h 71 3 (nI k)) 71 4 (nI N)) 71 5 1).1 71 3 = nI k := rfl
  have e4 : (sI (sI (sI h 71 3 (nI k)) 71 4 (nI N)) 71 5 1).1 71 4 = nI N := rfl
  have e5 : (sI (sI (sI h 71 3 (nI k)) 71 4 (nI N)) 71 5 1).1 71 5 = 1 := rfl
  generalize sI (sI (sI h 71 3 (nI k)) 71 4 (nI N)) 71 5 1 = g0 at c0 e3 e4 e5
  obtain ⟨g', hg, q⟩ := for_ex (F := fun m xx g => fX1_takeFrom_l24 2 (nI k) m xx g) (fun g => some g) k (by omega) (fun c g => Core h g ∧ g.1 71 3 = nI k ∧ g.1 71 4 = nI N ∧ Fg (g.1 71 5) (AS M N B c 0) ∧ TkD h g B N c) (fun m c g hc hI => by
      obtain ⟨cg, e3, e4, hf, hD⟩ := hI
      show ∃ s', fX1_takeFrom_l24b 2 (fX1_takeFrom_l24 2 (nI k) m) (nI k) (nI c) g = _ ∧ _
      unfold fX1_takeFrom_l24b
      dsimp only [letT]
      rw [if_pos (nI_lt hc (by omega)), nI_1]
      obtain ⟨w, g', a1, a2, a3, a4, a5, a6, a7, a8⟩ := take36 (K := fun y17 g18 => fX1_takeFrom_l24 2 (nI k) m (nI (c + 1)) (fX11_put 73 (nI c) y17 g18)) H hc hk hkN eB cg e3 e4 hf hD
      rw [a1, put_in (show c < aln 73 by show _ < 5; omega)]
      refine ⟨_, rfl, a2.tr (Core.sR (a := 73) rfl), a3, a4, ?_, fun c' hc' => ?_⟩
      · have e : AS M N B (c + 1) 0 ↔ AS M N B c N := by
          constructor
          · intro q
            exact ⟨fun c' h1 => q.1 c' (by omega), fun j hj => q.1 c (by omega) j hj⟩
          · intro q
            refine ⟨fun c' h1 j hj => ?_, fun j hj => absurd hj (Nat.not_lt_zero _)⟩
            by_cases e : c' = c
            · rw [e]; exact q.2 j hj
            · exact q.1 c' (by omega) j hj
        show Fg (g'.1 71 5) _
        unfold Fg
        rw [e]
        exact a5
      · show (∀ j, j < N → g'.1 72 (c' * 20 + j) = B (c' * N + j)) ∧ LW (mX h) N N (cpr B N c') (upd (g'.1 73) c w c')
        by_cases e : c' = c
        · rw [e, upd_at]
          exact ⟨a7, a8⟩
        · rw [upd_ne _ _ e]
          exact a6 c' (by omega)) (fun m g hI => by
      show fX1_takeFrom_l24b 2 (fX1_takeFrom_l24 2 (nI k) m) (nI k) (nI k) g = _
      unfold fX1_takeFrom_l24b
      rw [if_neg (nI_nlt (Nat.le_refl _) (by omega))]) fuel0 0 g0 (by omega) (by have := fuel_big; omega) ⟨c0, e3, e4, Or.inl ⟨e5, fun c' h1 => absurd h1 (Nat.not_lt_zero _), fun c' h1 => absurd h1 (Nat.not_lt_zero _)⟩, fun c' h1 => absurd h1 (Nat.not_lt_zero _)⟩
  refine ⟨g', hg, q.1, q.2.1, q.2.2.1, ?_, q.2.2.2.2⟩
  have e : AS M N B k 0 ↔ (∀ c, c < k → ∀ j, j < N → clm M (B (c * N + j))) := ⟨fun q => q.1, fun q => ⟨q, fun j hj => absurd hj (Nat.not_lt_zero _)⟩⟩
  unfold Fg
  rw [← e]
  exact q.2.2.2.1
/-- all of C behind the first other line is as it is made -/
def cmb (m : Rw → Nat → Int32) (N : Nat) (C S : Rw) : Prop := ∀ f, f < N → ¬ C f = S f → (∀ j, j < f → C j = S j) → ∀ k, f < k → k < N → C k = m C k
theorem firstOther_eq {N c k M : Nat} {h g : AH} {B S : Rw} (T : Tkn h g B M N k) (hN : N ≤ 20) (hk : k ≤ 5) (hc : c < k) (e50 : eqOn N (g.1 50) S) : fX1_firstOther (nI c) 50 g = some (match fst (fun l => !decide (cpr B N c l = S l)) 0 N with | none => nI N | some j => nI j) := by
  unfold fX1_firstOther
  have key := for_fst (F := fun m xx => fX1_firstOther_l2 50 (nI c) g m xx) (fun l => !decide (cpr B N c l = S l)) (fun j => some (nI j)) (some (nI N)) N (by omega) (fun m l hl => by
      show fX1_firstOther_l2b 50 (fX1_firstOther_l2 50 (nI c) g m) (nI c) g (nI l) = _
      unfold fX1_firstOther_l2b
      rw [T.2.1, if_pos (nI_lt hl (by omega)), show (20 : Int32) = nI 20 from rfl, nI_mul, nI_add, at_in (show c * 20 + l < aln 72 by show _ < 100; omega), at_in (show l < aln 50 by show _ < 20; omega), (T.2.2.2 c hc).1 l hl, e50 l hl, nI_1]
      show (if cpr B N c l = S l then _ else _) = _
      by_cases e : cpr B N c l = S l
      · rw [if_pos e, if_neg (by simp [e])]
      · rw [if_neg e, if_pos (by simp [e])]) (fun m => by
      show fX1_firstOther_l2b 50 (fX1_firstOther_l2 50 (nI c) g m) (nI c) g (nI N) = _
      unfold fX1_firstOther_l2b
      rw [T.2.1, if_neg (nI_nlt (Nat.le_refl _) (by omega))]) fuel0 0 (by omega) (by have := fuel_big; omega)
  refine key.trans ?_
  rw [Nat.sub_zero]
  cases fst (fun l => !decide (cpr B N c l = S l)) 0 N <;> rfl
theorem allComeFrom_eq {N k M : Nat} {h g : AH} {B S : Rw} (T : Tkn h g B M N k) (hN : N ≤ 20) (hk : k ≤ 5) (e50 : eqOn N (g.1 50) S) : ∃ r, fX1_allComeFrom 50 g = some r ∧ Fg r ((∀ c, c < k → ∀ j, j < N → clm M (B (c * N + j))) ∧ ∀ c, c < k → cmb (mX h) N (cpr B N c) S) := by
  unfold fX1_allComeFrom
  obtain ⟨s, hs, q⟩ := for_exx (F := fun m xx (s : Int32) => fX1_allComeFrom_l7 50 g m s xx) (fun s => some s) k (by omega) (fun c s => Fg s ((∀ c, c < k → ∀ j, j < N → clm M (B (c * N + j))) ∧ ∀ c', c' < c → cmb (mX h) N (cpr B N c') S)) (fun m c s hc hI => by
      show (∃ s', fX1_allComeFrom_l7b 50 (fX1_allComeFrom_l7 50 g m) g s (nI c) = _ ∧ _) ∨ (∃ s', fX1_allComeFrom_l7b 50 (fX1_allComeFrom_l7 50 g m) g s (nI c) = _ ∧ _)
      unfold fX1_allComeFrom_l7b
      rw [T.1, if_pos (nI_lt hc (by omega)), firstOther_eq T hN hk hc e50, ob, T.2.1, at_in (show c < aln 73 by show _ < 5; omega), nI_1]
      rcases hI with ⟨rfl, f2, f3⟩ | ⟨rfl, f2⟩
      · left
        have grow : cmb (mX h) N (cpr B N c) S → ∀ c', c' < c + 1 → cmb (mX h) N (cpr B N c') S := fun q c' h1 => by
          by_cases e : c' = c
          · rw [e]; exact q
          · exact f3 c' (by omega)
        rw [if_neg (by decide)]
        cases hf : fst (fun l => !decide (cpr B N c l = S l)) 0 N with
        | none =>
          dsimp only
          rw [if_pos rfl]
          refine ⟨1, rfl, Or.inl ⟨rfl, f2, grow (fun f hfN hne _ => ?_)⟩⟩
          have := fst_none hf f (Nat.zero_le _) (by omega)
          simp at this
          exact absurd this hne
        | some j =>
          obtain ⟨-, j2, j3, j4⟩ := fst_some hf
          have j3' : ¬ cpr B N c j = S j := by simpa using j3
          have j4' : ∀ i, i < j → cpr B N c i = S i := fun i hi => by simpa using j4 i (Nat.zero_le _) hi
          dsimp only
          rw [if_neg (show ¬ nI j = nI N from ne_lit (by omega) (by omega) (by omega))]
          have hLW := (T.2.2.2 c hc).2 j (by omega)
          by_cases lt : nI j < g.1 73 c
          · rw [if_pos lt]
            obtain ⟨k2, k3, k4, k5⟩ := hLW.mp lt
            exact ⟨0, rfl, Or.inr ⟨rfl, fun q => k5 (q.2 c (by omega) j (by omega) j3' j4' k2 k3 k4)⟩⟩
          · rw [if_neg lt]
            refine ⟨1, rfl, Or.inl ⟨rfl, f2, grow (fun f hfN hne hb k2 h1 h2 => ?_)⟩⟩
            have efj : f = j := by
              rcases Nat.lt_trichotomy f j with a | a | a
              · exact absurd (j4' f a) hne
              · exact a
              · exact absurd (hb j a) j3'
            by_cases e : cpr B N c k2 = mX h (cpr B N c) k2
            · exact e
            · exact absurd (hLW.mpr ⟨k2, by omega, h2, e⟩) lt
      · right
        rw [if_pos rfl, if_pos (Or.inl rfl)]
        refine ⟨0, rfl, Or.inr ⟨rfl, fun q => f2 ⟨q.1, fun c' h1 => q.2 c' (by omega)⟩⟩⟩) (fun m s hI => by
      show fX1_allComeFrom_l7b 50 (fX1_allComeFrom_l7 50 g m) g s (nI k) = _
      unfold fX1_allComeFrom_l7b
      rw [T.1, if_neg (nI_nlt (Nat.le_refl _) (by omega))]
      rcases hI with ⟨rfl, -⟩ | ⟨rfl, -⟩
      · rw [if_pos (Or.inr rfl)]
      · rw [if_pos (Or.inl rfl)]) fuel0 0 (g.1 71 5) (by omega) (by have := fuel_big; omega) (by
      have e : ((∀ c, c < k → ∀ j, j < N → clm M (B (c * N + j))) ∧ ∀ c', c' < 0 → cmb (mX h) N (cpr B N c') S) ↔ (∀ c, c < k → ∀ j, j < N → clm M (B (c * N + j))) := ⟨fun q => q.1, fun q => ⟨q, fun c' h1 => absurd h1 (Nat.not_lt_zero _)⟩⟩
      unfold Fg
      rw [e]
      exact T.2.2.1)
  exact ⟨s, hs, q⟩
