/-- THE LOOP WITH A SECOND WAY OUT -/
theorem for_or {σ R : Type} {F : Nat → Int32 → σ → R} (E E2 : σ → R) (N : Nat) (hN : N < 2 ^ 31) (I : Nat → σ → Prop) (J : σ → Prop)
    (hs : ∀ n k s, k < N → I k s → (∃ s', F (n + 1) (nI k) s = F n (nI (k + 1)) s' ∧ I (k + 1) s') ∨ ∃ s', F (n + 1) (nI k) s = E2 s' ∧ J s') (he : ∀ n s, I N s → F (n + 1) (nI N) s = E s) :
    ∀ (n k : Nat) (s : σ), k ≤ N → N - k < n → I k s → (∃ s', F n (nI k) s = E s' ∧ I N s') ∨ ∃ s', F n (nI k) s = E2 s' ∧ J s' := by
  intro n
  induction n with
  | zero => intro k s _ h; exact absurd h (Nat.not_lt_zero _)
  | succ n ih =>
    intro k s hk hn hI
    by_cases hkN : k = N
    · subst hkN
      exact Or.inl ⟨s, he n s hI, hI⟩
    · rcases hs n k s (by omega) hI with ⟨s', h1, h2⟩ | h
      · rcases ih (k + 1) s' (by omega) (by omega) h2 with ⟨t, h3, h4⟩ | ⟨t, h3, h4⟩
        · exact Or.inl ⟨t, h1.trans h3, h4⟩
        · exact Or.inr ⟨t, h1.trans h3, h4⟩
      · exact Or.inr h
/-- the first was found, and the row holds it -/
def FdX (p : Nat) (h g : AH) (o : Option (Nat × Nat × Nat × Nat)) : Prop := p ≠ 0 ∧ Core h g ∧ ∃ t, o = some t ∧ g.1 57 1 = nI t.1 ∧ g.1 57 2 = nI t.2.1 ∧ g.1 57 3 = nI t.2.2.1 ∧ g.1 57 4 = nI t.2.2.2
/-- found or not: what the class asks after each slip -/
theorem fdx_ask {p : Nat} {h g : AH} {s : CT} (hp : p ≤ 4) (c : Core h g) (hs : EncX p g s) : (p = 0 ∨ s.2 = none) ∧ (∀ {R : Type} (A B : R), (if (0 : Int32) < nI p then if (0 : Int32) < g.1 57 0 then A else B else B) = B) ∨ FdX p h g s.2 ∧ (∀ {R : Type} (A B : R), (if (0 : Int32) < nI p then if (0 : Int32) < g.1 57 0 then A else B else B) = A) := by
  by_cases p0 : p = 0
  · left
    refine ⟨Or.inl p0, fun A B => ?_⟩
    rw [if_neg (by rw [p0]; decide)]
  · have hpp : (0 : Int32) < nI p := nI_lt (a := 0) (by omega) (by omega)
    cases hu : s.2 with
    | none =>
      left
      refine ⟨Or.inr rfl, fun A B => ?_⟩
      rw [if_pos hpp, (hs.2.2 p0).1 hu, if_neg (by decide)]
    | some t =>
      right
      have ht := (hs.2.2 p0).2 t hu
      refine ⟨⟨p0, c, t, rfl, ht.2⟩, fun A B => ?_⟩
      rw [if_pos hpp, ht.1, if_pos (by decide)]
theorem cancelX {N M x p : Nat} {h : AH} (H : ScN N M x h) (hp : p ≤ 4) (h0 : 0 < N) (h8 : N ≤ 8) : ∃ h1, xo_cancel (nI p) h = some ((if p = 0 then nI (ca0 (mX h) N M (wk (mX h) 0 N (h.1 54)) N).1 else match (ca0 (mX h) N M (wk (mX h) 0 N (h.1 54)) N).2 with | none => -2 | some t => if p = 1 then nI t.1 else if p = 2 then nI t.2.1 else if p = 3 then nI t.2.2.1 else nI t.2.2.2), h1) ∧ Core h h1 := by
  have hN := H.N
  have hM := H.M97
  have hNM : N * M ≤ 8 * 97 := Nat.mul_le_mul h8 hM.2
  have hMW : M * (8 * 97) ≤ 97 * (8 * 97) := Nat.mul_le_mul_right _ hM.2
  have a0 : ∀ h, fX11_at 57 (0 : Int32) h = h.1 57 0 := fun h => at_in (i := 0) (by decide)
  have p00 : ∀ v h, fX11_put 57 (0 : Int32) v h = sI h 57 0 v := fun v h => put_in (i := 0) (by decide)
  unfold xo_cancel fX11_cancel
  rw [if_neg (nI_pos (by omega)), if_neg (show ¬ (4 : Int32) < nI p from nI_nlt (a := 4) (by omega) (by decide)), H.sX, if_neg (show ¬ nI N = 0 from ne_lit (j := 0) (by omega) (by decide) (by omega)), if_neg (show ¬ (8 : Int32) < nI N from nI_nlt (a := 8) (by omega) (by decide))]
  have c0 : Core h (sI h 57 0 0) := Core.sI rfl
  have e57 : (sI h 57 0 0).1 57 0 = 0 := by rw [sI_at, upd_at]
  have e54h : (sI h 57 0 0).1 54 = h.1 54 := sI_ne _ _ _ (by decide)
  unfold fX0_answer
  rw [p00]
  dsimp only [letT]
  rw [truth_eq (H.core c0).WX (by unfold offX; omega) (by decide), ob, mX_core c0, e54h]
  generalize hT : wk (mX h) 0 N (h.1 54) = T
  have c1 : Core h (sR (sI h 57 0 0) 54 T) := c0.tr (Core.sR rfl)
  have e54 : (sR (sI h 57 0 0) 54 T).1 54 = T := sR_at _ _ _
  have hs0 : EncX p (sR (sI h 57 0 0) 54 T) (0, none) := EncX.of (g := sI h 57 0 0) (sR_ne _ _ (by decide)) ⟨⟨fun _ => rfl, fun _ => rfl⟩, fun _ => e57, fun _ => ⟨fun _ => e57, fun t ht => by cases ht⟩⟩
  have el : fX6_last (sR (sI h 57 0 0) 54 T) = nI (N - 1) := by
    unfold fX6_last
    rw [(H.core c1).sX, nI_sub1 (by omega)]
  rw [el]
  generalize sR (sI h 57 0 0) 54 T = g0 at c1 e54 hs0
  generalize hK1 : (fun g22 : AH => some (fX11_at 57 (nI p) g22, g22)) = K1
  generalize hK2 : (fun g23 : AH => if nI p = 0 then some (fX11_at 57 (0 : Int32) g23, g23) else some ((-2 : Int32), g23)) = K2
  have key := for_or (F := fun m xx g => fX0_answer_l29 K1 K2 (nI p) (nI (N - 1)) m xx g) K2 K1 (N - 1) (by omega) (fun k g => Core h g ∧ g.1 54 = T ∧ EncX p g (ca0 (mX h) N M T k) ∧ (p = 0 ∨ (ca0 (mX h) N M T k).2 = none)) (fun g => FdX p h g (ca0 (mX h) N M T N).2) (fun m k g hk hI => by
      obtain ⟨c, e54, hs, hno⟩ := hI
      show (∃ s', fX0_answer_l29b (fX0_answer_l29 K1 K2 (nI p) (nI (N - 1)) m) K1 K2 (nI p) (nI (N - 1)) (nI k) g = _ ∧ _) ∨ (∃ s', fX0_answer_l29b (fX0_answer_l29 K1 K2 (nI p) (nI (N - 1)) m) K1 K2 (nI p) (nI (N - 1)) (nI k) g = _ ∧ _)
      unfold fX0_answer_l29b
      rw [if_pos (nI_lt hk (by omega)), nI_1]
      have inner := for_or (F := fun m' xx g => fX0_answer_l38 (fun g20 => K1 g20) (fun g21 => fX0_answer_l29 K1 K2 (nI p) (nI (N - 1)) m (nI (k + 1)) g21) (nI p) (nI (N - 1)) (nI k) m' xx g) (fun g21 => fX0_answer_l29 K1 K2 (nI p) (nI (N - 1)) m (nI (k + 1)) g21) (fun g20 => K1 g20) M (by omega) (fun v g => Core h g ∧ g.1 54 = T ∧ EncX p g (ca1 (mX h) N M T k v (ca0 (mX h) N M T k)) ∧ (p = 0 ∨ (ca1 (mX h) N M T k v (ca0 (mX h) N M T k)).2 = none)) (fun g => FdX p h g (ca0 (mX h) N M T N).2) (fun m' v g hv hI => by
          obtain ⟨c, e54, hs, hno⟩ := hI
          have Hg := H.core c
          show (∃ s', fX0_answer_l38b (fX0_answer_l38 (fun g20 => K1 g20) (fun g21 => fX0_answer_l29 K1 K2 (nI p) (nI (N - 1)) m (nI (k + 1)) g21) (nI p) (nI (N - 1)) (nI k) m') (fun g20 => K1 g20) (fun g21 => fX0_answer_l29 K1 K2 (nI p) (nI (N - 1)) m (nI (k + 1)) g21) (nI p) (nI (N - 1)) (nI k) (nI v) g = _ ∧ _) ∨ (∃ s', fX0_answer_l38b (fX0_answer_l38 (fun g20 => K1 g20) (fun g21 => fX0_answer_l29 K1 K2 (nI p) (nI (N - 1)) m (nI (k + 1)) g21) (nI p) (nI (N - 1)) (nI k) m') (fun g20 => K1 g20) (fun g21 => fX0_answer_l29 K1 K2 (nI p) (nI (N - 1)) m (nI (k + 1)) g21) (nI p) (nI (N - 1)) (nI k) (nI v) g = _ ∧ _)
          unfold fX0_answer_l38b
          obtain ⟨r, e1, q1⟩ := copyRow_ex (a := 54) (b := 55) (n := 20) (h := g) (by decide) rfl rfl
          rw [e54] at q1
          have c2 : Core h (sR g 55 r) := c.tr (Core.sR rfl)
          rw [Hg.eX, if_pos (nI_lt hv (by omega)), e1, ob, slipIn_eq (H.core c2).WX (by unfold offX; omega) (by decide) (show k < N by omega), ob, sR_at, mX_core c2, sR_sR, nI_1]
          have c3 : Core h (sR g 55 (slp (mX h) N k (nI v) r)) := c.tr (Core.sR rfl)
          have e54' : (sR g 55 (slp (mX h) N k (nI v) r)).1 54 = T := by rw [sR_ne _ _ (by decide), e54]
          have e55' : eqOn N ((sR g 55 (slp (mX h) N k (nI v) r)).1 55) (slp (mX h) N k (nI v) T) := by
            rw [sR_at]
            exact slp_cong (mX_ahead H.WX) (by omega) (q1.le hN)
          have hs' : EncX p (sR g 55 (slp (mX h) N k (nI v) r)) (ca1 (mX h) N M T k v (ca0 (mX h) N M T k)) := hs.of (sR_ne _ _ (by decide))
          generalize sR g 55 (slp (mX h) N k (nI v) r) = g1 at c3 e54' e55' hs'
          have st : ca1 (mX h) N M T k (v + 1) (ca0 (mX h) N M T k) = ca2 (mX h) N M T k v (N - (k + 1)) (ca1 (mX h) N M T k v (ca0 (mX h) N M T k)) := by
            unfold ca1
            rw [itf_last, Nat.zero_add]
          have late : ∀ {t}, (ca1 (mX h) N M T k (v + 1) (ca0 (mX h) N M T k)).2 = some t → (ca0 (mX h) N M T N).2 = some t := fun {t} h1 => by
            have h2 : (ca1 (mX h) N M T k M (ca0 (mX h) N M T k)).2 = some t := itf_keep (P := fun s : CT => s.2 = some t) (fun _ _ h => ca2_sm h) (show v + 1 ≤ M by omega) h1
            have h3 : (ca0 (mX h) N M T (k + 1)).2 = some t := by
              unfold ca0
              rw [itf_last, Nat.zero_add]
              exact h2
            exact itf_keep (P := fun s : CT => s.2 = some t) (fun _ _ h => ca1_sm h) (show k + 1 ≤ N by omega) h3
          rw [at_in (show N - 1 < aln 55 by show _ < 20; omega), at_in (show N - 1 < aln 54 by show _ < 20; omega), e54', e55' (N - 1) (by omega)]
          have tail : ∀ g2 : AH, Core h g2 → g2.1 54 = T → EncX p g2 (ca1 (mX h) N M T k (v + 1) (ca0 (mX h) N M T k)) → (∃ s', (if (0 : Int32) < nI p then if (0 : Int32) < g2.1 57 0 then K1 g2 else fX0_answer_l38 (fun g20 => K1 g20) (fun g21 => fX0_answer_l29 K1 K2 (nI p) (nI (N - 1)) m (nI (k + 1)) g21) (nI p) (nI (N - 1)) (nI k) m' (nI (v + 1)) g2 else fX0_answer_l38 (fun g20 => K1 g20) (fun g21 => fX0_answer_l29 K1 K2 (nI p) (nI (N - 1)) m (nI (k + 1)) g21) (nI p) (nI (N - 1)) (nI k) m' (nI (v + 1)) g2) = fX0_answer_l38 (fun g20 => K1 g20) (fun g21 => fX0_answer_l29 K1 K2 (nI p) (nI (N - 1)) m (nI (k + 1)) g21) (nI p) (nI (N - 1)) (nI k) m' (nI (v + 1)) s' ∧ (Core h s' ∧ s'.1 54 = T ∧ EncX p s' (ca1 (mX h) N M T k (v + 1) (ca0 (mX h) N M T k)) ∧ (p = 0 ∨ (ca1 (mX h) N M T k (v + 1) (ca0 (mX h) N M T k)).2 = none))) ∨ (∃ s', (if (0 : Int32) < nI p then if (0 : Int32) < g2.1 57 0 then K1 g2 else fX0_answer_l38 (fun g20 => K1 g20) (fun g21 => fX0_answer_l29 K1 K2 (nI p) (nI (N - 1)) m (nI (k + 1)) g21) (nI p) (nI (N - 1)) (nI k) m' (nI (v + 1)) g2 else fX0_answer_l38 (fun g20 => K1 g20) (fun g21 => fX0_answer_l29 K1 K2 (nI p) (nI (N - 1)) m (nI (k + 1)) g21) (nI p) (nI (N - 1)) (nI k) m' (nI (v + 1)) g2) = K1 s' ∧ FdX p h s' (ca0 (mX h) N M T N).2) := fun g2 c e54 hs => by
            rcases fdx_ask hp c hs with ⟨q1, q2⟩ | ⟨⟨q0, q1, t, q2, q3⟩, q4⟩
            · left
              exact ⟨g2, q2 _ _, c, e54, hs, q1⟩
            · right
              exact ⟨g2, q4 _ _, q0, q1, t, late q2, q3⟩
          by_cases hsh : slp (mX h) N k (nI v) T (N - 1) = T (N - 1)
          · rw [if_pos hsh, a0]
            refine tail g1 c3 e54' ?_
            rw [st, ca2_id hsh]
            exact hs'
          · rw [if_neg hsh]
            have hle := ca1_le (m := mX h) (T := T) (i := k) (s := ca0 (mX h) N M T k) hNM v
            have hle0 := ca0_le (m := mX h) (T := T) hNM hMW k
            have hkv : k * (97 * (8 * 97)) ≤ 8 * (97 * (8 * 97)) := Nat.mul_le_mul_right _ (by omega)
            have hvv : v * (8 * 97) ≤ 97 * (8 * 97) := Nat.mul_le_mul_right _ (by omega)
            have hB : (ca1 (mX h) N M T k v (ca0 (mX h) N M T k)).1 + N * M ≤ 1000000 := by
              have e1 := Nat.le_trans hle0 hkv
              have e2 := Nat.le_trans hle (Nat.add_le_add e1 hvv)
              have e3 := Nat.add_le_add e2 hNM
              exact Nat.le_trans e3 (by decide)
            obtain ⟨g2, b1, b2, b3, b4⟩ := trySeconds_eq (e := if p = 0 then 2147483647 else 1) (v := v) H (show k < N by omega) rfl hB c3 e54' rfl e55' hs' hsh
            rw [← st] at b4
            dsimp only [letT]
            by_cases p0 : p = 0
            · rw [if_pos p0] at b1
              rw [if_pos (show nI p = 0 by rw [p0]; rfl), b1, ob, a0]
              exact tail g2 b2 b3 b4
            · rw [if_neg p0] at b1
              rw [if_neg (show ¬ nI p = 0 from ne_lit (j := 0) (by omega) (by decide) p0), b1, ob, a0]
              exact tail g2 b2 b3 b4) (fun m' g hI => by
          show fX0_answer_l38b (fX0_answer_l38 (fun g20 => K1 g20) (fun g21 => fX0_answer_l29 K1 K2 (nI p) (nI (N - 1)) m (nI (k + 1)) g21) (nI p) (nI (N - 1)) (nI k) m') (fun g20 => K1 g20) (fun g21 => fX0_answer_l29 K1 K2 (nI p) (nI (N - 1)) m (nI (k + 1)) g21) (nI p) (nI (N - 1)) (nI k) (nI M) g = _
          unfold fX0_answer_l38b
          rw [(H.core hI.1).eX, if_neg (nI_nlt (Nat.le_refl _) (by omega))]) fuel0 0 g (by omega) (by have := fuel_big; omega) ⟨c, e54, hs, hno⟩
      have st : ca0 (mX h) N M T (k + 1) = ca1 (mX h) N M T k M (ca0 (mX h) N M T k) := by
        unfold ca0
        rw [itf_last, Nat.zero_add]
      rw [st]
      rcases inner with ⟨g', b1, b2⟩ | ⟨g', b1, b2⟩
      · exact Or.inl ⟨g', b1, b2⟩
      · exact Or.inr ⟨g', b1, b2⟩) (fun m g hI => by
      show fX0_answer_l29b (fX0_answer_l29 K1 K2 (nI p) (nI (N - 1)) m) K1 K2 (nI p) (nI (N - 1)) (nI (N - 1)) g = _
      unfold fX0_answer_l29b
      rw [if_neg (nI_nlt (Nat.le_refl _) (by omega))]) fuel0 0 g0 (by omega) (by have := fuel_big; omega) ⟨c1, e54, hs0, Or.inr rfl⟩
  have hlast : ca0 (mX h) N M T N = ca0 (mX h) N M T (N - 1) := by
    have e : N = N - 1 + 1 := by omega
    have st : ca0 (mX h) N M T (N - 1 + 1) = ca1 (mX h) N M T (N - 1) M (ca0 (mX h) N M T (N - 1)) := by
      unfold ca0
      rw [itf_last, Nat.zero_add]
    rw [← e] at st
    rw [st]
    generalize ca0 (mX h) N M T (N - 1) = u
    unfold ca1
    have : ∀ q, itf (fun v s => ca2 (mX h) N M T (N - 1) v (N - (N - 1 + 1)) s) 0 q u = u := by
      intro q
      induction q with
      | zero => rfl
      | succ q ih =>
        rw [itf_last, ih]
        show ca2 (mX h) N _ T (N - 1) _ (N - (N - 1 + 1)) u = u
        rw [← e, Nat.sub_self]
        rfl
    exact this M
  rcases key with ⟨g', hg, c, -, hs, hno⟩ | ⟨g', hg, p0, c, t, ht, q1, q2, q3, q4⟩
  · refine ⟨g', ?_, c⟩
    have hg2 : fX0_answer_l29 K1 K2 (nI p) (nI (N - 1)) fuel0 0 g0 = K2 g' := hg
    rw [hg2, ← hK2, hlast]
    dsimp only
    by_cases p0 : p = 0
    · rw [if_pos (by rw [p0]; rfl), if_pos p0, ob, a0, hs.2.1 p0]
    · rw [if_neg (show ¬ nI p = 0 from ne_lit (j := 0) (by omega) (by decide) p0), if_neg p0, ob, hno.resolve_left p0]
  · refine ⟨g', ?_, c⟩
    have hg2 : fX0_answer_l29 K1 K2 (nI p) (nI (N - 1)) fuel0 0 g0 = K1 g' := hg
    rw [hg2, ← hK1, ht, if_neg p0]
    dsimp only
    rw [ob, at_in (show p < aln 57 by show _ < 5; omega)]
    dsimp only
    have : p = 1 ∨ p = 2 ∨ p = 3 ∨ p = 4 := by omega
    rcases this with rfl | rfl | rfl | rfl
    · rw [q1]; rfl
    · rw [q2]; rfl
    · rw [q3]; rfl
    · rw [q4]; rfl
theorem st_cancel (p : Int32) {h : AH} (I : Inv h) : St (xo_cancel p) (mo_cancel p) h := by
  obtain ⟨⟨N, M, x, H⟩, -⟩ := id I
  have hN := H.N
  have bad : (p < 0 ∨ (¬ p < 0 ∧ (4 : Int32) < p)) → St (xo_cancel p) (mo_cancel p) h := fun hp => by
    refine St.ro (r := -1) I ?_ .rf ?_ .rf
    · unfold xo_cancel fX11_cancel
      rcases hp with hp | ⟨h1, h2⟩
      · rw [if_pos hp]
      · rw [if_neg h1, if_pos h2]
    · unfold mo_cancel fX12_cancel
      rcases hp with hp | ⟨h1, h2⟩
      · rw [in_no (Or.inl hp), if_pos rfl]
      · rw [in_no (Or.inr h2), if_pos rfl]
  by_cases n0 : p < 0
  · exact bad (Or.inl n0)
  by_cases n4 : (4 : Int32) < p
  · exact bad (Or.inr ⟨n0, n4⟩)
  obtain ⟨q, hq, rfl⟩ := nI_of n0
  have q4 : q ≤ 4 := by
    by_cases h5 : q ≤ 4
    · exact h5
    · exact absurd (show (4 : Int32) < nI q from nI_lt (a := 4) (by omega) hq) n4
  have bad2 : (N = 0 ∨ 8 < N) → St (xo_cancel (nI q)) (mo_cancel (nI q)) h := fun hb => by
    refine St.ro (r := -1) I ?_ .rf ?_ .rf
    · unfold xo_cancel fX11_cancel
      rw [if_neg n0, if_neg n4, H.sX]
      rcases hb with hb | hb
      · rw [if_pos (by rw [hb]; rfl)]
      · rw [if_neg (show ¬ nI N = 0 from ne_lit (j := 0) (by omega) (by decide) (by omega)), if_pos (show (8 : Int32) < nI N from nI_lt (a := 8) (by omega) (by omega))]
    · unfold mo_cancel fX12_cancel
      rw [in_yes n0 n4, if_neg (by decide), H.sM]
      rcases hb with hb | hb
      · rw [if_pos (by rw [hb]; rfl)]
      · rw [if_neg (show ¬ nI N = 0 from ne_lit (j := 0) (by omega) (by decide) (by omega)), if_pos (show (8 : Int32) < nI N from nI_lt (a := 8) (by omega) (by omega))]
  by_cases z : N = 0
  · exact bad2 (Or.inl z)
  by_cases b : 8 < N
  · exact bad2 (Or.inr b)
  obtain ⟨h1, eX, c1⟩ := cancelX H q4 (by omega) (by omega)
  obtain ⟨h2, eM, c2⟩ := cancelM (H.core c1).WM q4 (by omega) (by omega)
  rw [mM_core c1] at eM
  have e : ca0 (mM h) N M (wk (mM h) 0 N (h1.1 87)) N = ca0 (mX h) N M (wk (mX h) 0 N (h.1 54)) N := (ca0_cong (fun i hi r r' hr => H.same hi hr) (H.tr (h.1 54) (h1.1 87)) (by omega)).symm
  rw [e] at eM
  exact St.ro I eX c1 eM c2
