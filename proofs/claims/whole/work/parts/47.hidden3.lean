theorem hbest_some {M N : Nat} {T : Rw} {t : Nat → Nat} (hM : 2 ≤ M) (hN : 0 < N) : ∃ b, hbest M T t (N * M) = some b := by
  have hNM : M ≤ N * M := Nat.le_mul_of_pos_left M hN
  have keep : ∀ c o, o ≠ none → hst M T t c o ≠ none := fun c o ho => by
    unfold hst
    split
    · exact ho
    · split
      · exact fun q => by cases q
      · exact ho
  have two : hbest M T t 2 ≠ none := by
    have d0 := code_dm (i := 0) (v := 0) (M := M) (by omega)
    have d1 := code_dm (i := 0) (v := 1) (M := M) (by omega)
    rw [Nat.zero_mul, Nat.zero_add] at d0 d1
    rw [hbest_succ (k := 1)]
    by_cases e : nI 0 = T 0
    · by_cases ho : hbest M T t 1 = none
      · rw [ho]
        unfold hst
        rw [d1.1, d1.2, if_neg (fun q => absurd (e.trans q.symm) (by decide))]
        exact fun q => by cases q
      · exact keep _ _ ho
    · apply keep
      rw [hbest_succ (k := 0)]
      unfold hst
      rw [d0.1, d0.2, if_neg e]
      exact fun q => by cases q
  have := itf_keep (P := fun o : Option Nat => o ≠ none) (f := hst M T t) (a := 0) (s := none) (fun c o ho => keep c o ho) (show 2 ≤ N * M by omega) two
  cases h : hbest M T t (N * M) with
  | none => exact absurd h this
  | some b => exact ⟨b, rfl⟩
theorem hiddenM {N M x n p : Nat} {h h0 : AH} {L : Nat → Int32} {C V : Nat → Rw → Int32} {P : Int32} {T : Rw} {t : Nat → Nat} (H : ScN N M x h) (X : Lx h n L C V) (c0 : Core h h0) (ht : tot h N M n L C P = t) (hT : T = wk (mM h) 0 N (h0.1 87)) (hn0 : 0 < N) (hP1 : ¬ P < 1) (hP2 : ¬ (1023 : Int32) < P) (hp : p ≤ 2) : ∃ h1 r, mo_hidden P (nI p) h0 = some (r, h1) ∧ Core h0 h1 ∧ (∀ b, hbest M T t (N * M) = some b → r = if p = 0 then nI (b / M) else if p = 1 then nI (b % M) else nI (t b)) := by
  have hN := H.N
  have hM := H.M97
  have hmp := nI_m hM.1 hM.2
  have hNM : N * M ≤ 20 * 97 := Nat.mul_le_mul hN hM.2
  have t10 : ∀ c, t c ≤ 10 := fun c => by rw [← ht]; exact tot_le
  have H0 := H.core c0
  unfold mo_hidden fX12_hidden
  rw [in_yes hP1 hP2, if_neg (by decide), in_yes (nI_pos (by omega)) (show ¬ (2 : Int32) < nI p from nI_nlt (a := 2) (by omega) (by decide)), if_neg (by decide), H0.sM, if_neg (show ¬ nI N = 0 from ne_lit (j := 0) (by omega) (by decide) (by omega)), laysTruth_eq H0.WM, ob, mM_core c0, ← hT]
  have c1 : Core h0 (sR h0 87 T) := Core.sR rfl
  have e87 : (sR h0 87 T).1 87 = T := sR_at _ _ _
  generalize sR h0 87 T = g1 at c1 e87
  generalize hK : (fun (y16 : Int32) (y17 : Int32) (g18 : AH) => if nI p = 0 then (if (g18.1 75 0) = 0 then none else some (y16 / (g18.1 75 0), g18)) else if nI p = (1 : Int32) then (if (g18.1 75 0) = 0 then none else some (jrem y16 (g18.1 75 0), g18)) else some (y17, g18)) = K
  obtain ⟨s, e, q1, qc, -⟩ := for_ex (F := fun m xx (s : Int32 × Int32 × AH) => fX12_hidden_l43 K P (nI p) m s.1 s.2.1 xx s.2.2) (fun s => K s.1 s.2.1 s.2.2) (N * M) (by omega) (fun c s => ((hbest M T t c = none ∧ s.2.1 = 1000000000) ∨ ∃ b, hbest M T t c = some b ∧ s.1 = nI b ∧ s.2.1 = nI (t b)) ∧ Core h0 s.2.2 ∧ s.2.2.1 87 = T) (fun m c s hc hI => by
      obtain ⟨a, b, g⟩ := s
      obtain ⟨q1, cg, e87⟩ := hI
      dsimp only at q1 cg e87
      show ∃ s', fX12_hidden_l43b (fX12_hidden_l43 K P (nI p) m) K P (nI p) a b (nI c) g = _ ∧ _
      unfold fX12_hidden_l43b
      dsimp only [letT]
      have hi : c / M < N := Nat.div_lt_of_lt_mul (by rw [Nat.mul_comm]; exact hc)
      have hv : c % M < M := Nat.mod_lt _ (by omega)
      have gg := gd (show c / M < 20 by omega) (by decide)
      have cgg := c0.tr cg
      have Hg := H.core cgg
      rw [Hg.sM, Hg.eM, nI_mul, if_pos (nI_lt hc (by omega)), if_neg hmp.2, if_neg hmp.2, nI_div (by omega) (by omega) (by omega), jrem_nI (by omega) (by omega) (by omega), if_neg gg, if_neg hmp.2, nI_clamp (by omega), e87, nI_1, hbest_succ]
      by_cases e : nI (c % M) = T (c / M)
      · rw [if_pos e]
        have : hst M T t c (hbest M T t c) = hbest M T t c := by unfold hst; rw [if_pos e]
        rw [this]
        exact ⟨(a, b, g), rfl, q1, cg, e87⟩
      · rw [if_neg e]
        obtain ⟨g2, e2, f2⟩ := findsOf_eq (P := P) H X cgg hi hv
        have ecode : c / M * M + c % M = c := by rw [Nat.mul_comm]; exact Nat.div_add_mod c M
        rw [ht, ecode] at e2
        have tc := t10 c
        have e873 : g2.1 87 = T := by rw [f2 87 (by decide) (by decide) (by decide), e87]
        rw [e2, ob]
        dsimp only
        rcases q1 with ⟨q0, rfl⟩ | ⟨b0, q0, rfl, rfl⟩
        · rw [if_pos (show nI (t c) < 1000000000 from nI_lt (b := 1000000000) (by omega) (by decide)), q0]
          have : hst M T t c none = some c := by
            unfold hst
            rw [if_neg e]
            rfl
          rw [this]
          exact ⟨(nI c, nI (t c), g2), rfl, Or.inr ⟨c, rfl, rfl, rfl⟩, cg.tr f2.core, e873⟩
        · rw [q0]
          have tb := t10 b0
          by_cases lt : t c < t b0
          · rw [if_pos (nI_lt lt (by omega))]
            have : hst M T t c (some b0) = some c := by
              unfold hst
              rw [if_neg e, if_pos (show ((some b0).elim true (fun b => decide (t c < t b))) = true from decide_eq_true lt)]
            rw [this]
            exact ⟨(nI c, nI (t c), g2), rfl, Or.inr ⟨c, rfl, rfl, rfl⟩, cg.tr f2.core, e873⟩
          · rw [if_neg (nI_nlt (by omega) (by omega)), hst_skip t10 (show ¬ t c < lim t (some b0) from lt)]
            exact ⟨(nI b0, nI (t b0), g2), rfl, Or.inr ⟨b0, rfl, rfl, rfl⟩, cg.tr f2.core, e873⟩) (fun m s hI => by
      show fX12_hidden_l43b (fX12_hidden_l43 K P (nI p) m) K P (nI p) s.1 s.2.1 (nI (N * M)) s.2.2 = _
      unfold fX12_hidden_l43b
      have Hg := H.core (c0.tr hI.2.1)
      rw [Hg.sM, Hg.eM, nI_mul, if_neg (nI_nlt (Nat.le_refl _) (by omega))]) fuel0 0 (0, 1000000000, g1) (by omega) (by have := fuel_big; omega) ⟨Or.inl ⟨rfl, rfl⟩, c1, e87⟩
  have e' : fX12_hidden_l43 K P (nI p) fuel0 0 1000000000 0 g1 = K s.1 s.2.1 s.2.2 := e
  have Hg := H.core (c0.tr qc)
  obtain ⟨b, hb⟩ := hbest_some (M := M) (N := N) (T := T) (t := t) hM.1 hn0
  have hblt := hbest_lt hb
  rcases q1 with ⟨q0, -⟩ | ⟨b0, q0, q2, q3⟩
  · rw [hb] at q0; cases q0
  · have : b = b0 := by rw [hb] at q0; exact Option.some.inj q0
    subst this
    rw [e', ← hK, q2, q3]
    dsimp only
    rw [Hg.eM, if_neg hmp.2, if_neg hmp.2, nI_div (by omega) (by omega) (by omega), jrem_nI (by omega) (by omega) (by omega)]
    by_cases p0 : p = 0
    · rw [if_pos (show nI p = 0 by rw [p0]; rfl)]
      refine ⟨_, _, rfl, qc, fun b' hb' => ?_⟩
      have : b = b' := by rw [hb] at hb'; exact Option.some.inj hb'
      rw [if_pos p0, this]
    · rw [if_neg (show ¬ nI p = 0 from ne_lit (j := 0) (by omega) (by decide) p0)]
      by_cases p1 : p = 1
      · rw [if_pos (show nI p = 1 by rw [p1]; rfl)]
        refine ⟨_, _, rfl, qc, fun b' hb' => ?_⟩
        have : b = b' := by rw [hb] at hb'; exact Option.some.inj hb'
        rw [if_neg p0, if_pos p1, this]
      · rw [if_neg (show ¬ nI p = 1 from ne_lit (j := 1) (by omega) (by decide) p1)]
        refine ⟨_, _, rfl, qc, fun b' hb' => ?_⟩
        have : b = b' := by rw [hb] at hb'; exact Option.some.inj hb'
        rw [if_neg p0, if_neg p1, this]
theorem hbest_cong {N M k : Nat} {T T' : Rw} {t : Nat → Nat} (hT : eqOn N T T') (hk : k ≤ N * M) : hbest M T t k = hbest M T' t k := by
  unfold hbest
  refine itf_cong (fun c o _ hc => ?_)
  have hi : c / M < N := Nat.div_lt_of_lt_mul (by rw [Nat.mul_comm]; omega)
  unfold hst
  rw [hT _ hi]
theorem st_hidden (p q : Int32) {h : AH} (I : Inv h) : St (xo_hidden p q) (mo_hidden p q) h := by
  obtain ⟨⟨N, M, x, H⟩, -, -, n, hL⟩ := id I
  obtain ⟨L, C, V, X⟩ := hL.x
  have hN := H.N
  have z1 : ¬ p < 0 → ¬ p = 0 → ¬ p < 1 := fun a b d => by
    obtain ⟨j, hj, rfl⟩ := nI_of a
    by_cases e : j = 0
    · exact b (by rw [e]; rfl)
    · exact absurd d (show ¬ nI j < 1 from nI_nlt (b := 1) (by omega) (by omega))
  by_cases bad : p < 1 ∨ (1023 : Int32) < p
  · refine St.ro (r := -1) I ?_ .rf ?_ .rf
    · unfold xo_hidden fX11_hidden
      by_cases b2 : p < 0 ∨ (1023 : Int32) < p
      · rw [areHearers_no b2, if_pos rfl]
      · have a1 : ¬ p < 0 := fun a => b2 (Or.inl a)
        have a2 : ¬ (1023 : Int32) < p := fun a => b2 (Or.inr a)
        rw [areHearers_yes a1 a2, if_neg (by decide)]
        by_cases e : p = 0
        · rw [if_pos e]
        · exact absurd bad (fun b => b.elim (z1 a1 e) a2)
    · unfold mo_hidden fX12_hidden
      rw [in_no bad, if_pos rfl]
  have p1 : ¬ p < 1 := fun a => bad (Or.inl a)
  have c2 : ¬ (1023 : Int32) < p := fun a => bad (Or.inr a)
  have c1 : ¬ p < 0 := fun a => p1 (Int32.lt_trans a (by decide))
  have p0 : ¬ p = 0 := fun a => p1 (by rw [a]; decide)
  by_cases c3 : q < 0
  · refine St.ro (r := -1) I ?_ .rf ?_ .rf
    · unfold xo_hidden fX11_hidden
      rw [areHearers_yes c1 c2, if_neg (by decide), if_neg p0, if_pos c3]
    · unfold mo_hidden fX12_hidden
      rw [in_yes p1 c2, if_neg (by decide), in_no (Or.inl c3), if_pos rfl]
  by_cases c4 : (2 : Int32) < q
  · refine St.ro (r := -1) I ?_ .rf ?_ .rf
    · unfold xo_hidden fX11_hidden
      rw [areHearers_yes c1 c2, if_neg (by decide), if_neg p0, if_neg c3, if_pos c4]
    · unfold mo_hidden fX12_hidden
      rw [in_yes p1 c2, if_neg (by decide), in_no (Or.inr c4), if_pos rfl]
  by_cases c5 : N = 0
  · refine St.ro (r := -1) I ?_ .rf ?_ .rf
    · unfold xo_hidden fX11_hidden
      rw [areHearers_yes c1 c2, if_neg (by decide), if_neg p0, if_neg c3, if_neg c4, H.sX, if_pos (by rw [c5]; rfl)]
    · unfold mo_hidden fX12_hidden
      rw [in_yes p1 c2, if_neg (by decide), in_yes c3 c4, if_neg (by decide), H.sM, if_pos (by rw [c5]; rfl)]
  obtain ⟨w, hw0, rfl⟩ := nI_of c3
  have w2 : w ≤ 2 := by
    by_cases a : w ≤ 2
    · exact a
    · exact absurd (nI_lt (a := 2) (b := w) (by omega) hw0) c4
  obtain ⟨h1, r, e1, d1, q1⟩ := hiddenX (P := p) H X rfl rfl (by omega) c1 c2 p0 w2
  obtain ⟨h2, r2, e2, d2, q2⟩ := hiddenM (P := p) H X d1 rfl rfl (by omega) p1 c2 w2
  obtain ⟨b, hb⟩ := hbest_some (M := M) (N := N) (T := wk (mX h) 0 N (h.1 49)) (t := tot h N M n L C p) H.M97.1 (by omega)
  have hb2 := hb
  rw [hbest_cong (H.tr (h.1 49) (h1.1 87)) (Nat.le_refl _)] at hb2
  have : r2 = r := (q2 b hb2).trans (q1 b hb).symm
  rw [this] at e2
  exact St.ro I e1 d1 e2 d2
