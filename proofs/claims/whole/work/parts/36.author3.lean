/-- the claims of one author in one slip: the class's question -/
def auA (m : Rw → Nat → Int32) (N M k : Nat) (B T : Rw) (i v : Nat) : Prop := (∀ c, c < k → ∀ j, j < N → clm M (B (c * N + j))) ∧ ∀ c, c < k → cmb m N (cpr B N c) (slp m N i (nI v) T)
noncomputable def auQ (m : Rw → Nat → Int32) (N M k : Nat) (B T : Rw) (c : Nat) : Bool := !decide (nI (c % M) = T (c / M)) && pb (auA m N M k B T (c / M) (c % M))
def auT (M : Nat) (c : Nat) : Int32 × Int32 × Int32 := (nI (c / M), nI (c % M), -2)
theorem code_dm {M i v : Nat} (hv : v < M) : (i * M + v) / M = i ∧ (i * M + v) % M = v := by
  have h0 : 0 < M := by omega
  rw [Nat.mul_comm]
  exact ⟨by rw [Nat.mul_add_div h0, Nat.div_eq_of_lt hv, Nat.add_zero], by rw [Nat.mul_add_mod, Nat.mod_eq_of_lt hv]⟩
theorem FR.no {r : Rw} {Q : Nat → Bool} {f : Nat → Int32 × Int32 × Int32} {c : Nat} (hf : FR r (ct Q c) ((fst Q 0 c).map f)) (hq : Q c = false) : FR r (ct Q (c + 1)) ((fst Q 0 (c + 1)).map f) := by
  rw [ct_succ, fst_last, Nat.zero_add, hq]
  simp only [Bool.toNat_false, Nat.add_zero, reduceCtorEq, if_false]
  cases h : fst Q 0 c <;> (rw [h] at hf; exact hf)
theorem FR.yes {h : AH} {Q : Nat → Bool} {f : Nat → Int32 × Int32 × Int32} {c : Nat} {a b d : Int32} (hf : FR (h.1 52) (ct Q c) ((fst Q 0 c).map f)) (hq : Q c = true) (hc : ct Q c < 1000000) (e : f c = (a, b, d)) : ∃ r, fX11_noteFound a b d h = sR h 52 r ∧ FR r (ct Q (c + 1)) ((fst Q 0 (c + 1)).map f) := by
  obtain ⟨r, e1, e2⟩ := note_eq a b d hf hc
  refine ⟨r, e1, ?_⟩
  rw [ct_succ, fst_last, Nat.zero_add, hq]
  simp only [Bool.toNat_true, if_true]
  cases h : fst Q 0 c with
  | none =>
    rw [h] at e2
    show FR r _ (some (f c))
    rw [e]
    exact e2
  | some j =>
    rw [h] at e2
    exact e2
theorem authorX {N M x k w T0 : Nat} {h : AH} {B : Rw} (H : ScN N M x h) (k1 : 1 ≤ k) (hk : k ≤ 5) (hw : w ≤ 2) (h0 : 0 < N) (hT0 : T0 ≤ 220) (t2 : h.1 1 1 = nI T0) (hkN : k * N ≤ T0) (eB : h.1 2 = B) : ∃ h1 r, xo_author (nI k) (nI w) h = some (r w, h1) ∧ Core (sI h 1 1 0) h1 ∧ FR r (ct (auQ (mX h) N M k B (wk (mX h) 0 N (h.1 49))) (N * M)) ((fst (auQ (mX h) N M k B (wk (mX h) 0 N (h.1 49))) 0 (N * M)).map (auT M)) := by
  have hN := H.N
  have hM := H.M97
  have hNM : N * M ≤ 20 * 97 := Nat.mul_le_mul hN hM.2
  unfold xo_author fX11_author
  rw [if_neg (show ¬ nI k < 1 from nI_nlt (b := 1) (by omega) (by omega)), if_neg (show ¬ (5 : Int32) < nI k from nI_nlt (a := 5) (by omega) (by decide)), if_neg (nI_pos (by omega)), if_neg (show ¬ (2 : Int32) < nI w from nI_nlt (a := 2) (by omega) (by decide)), H.sX, if_neg (show ¬ nI N = 0 from ne_lit (j := 0) (by omega) (by decide) (by omega)), nI_mul, t2, if_neg (nI_nlt (by omega) (by omega))]
  obtain ⟨g1, e1, c1, T1⟩ := takeFrom_eq H hk (by omega) eB
  rw [e1, ob]
  have H0 : ScN N M x (sI h 1 1 0) := H
  have eXm : mX (sI h 1 1 0) = mX h := rfl
  have c2 : Core (sI h 1 1 0) (sI g1 1 1 0) := coreCongI c1 (Or.inr rfl)
  have T2 : Tkn (sI h 1 1 0) (sI g1 1 1 0) B M N k := T1
  have ecl : fX10_clear g1 = sI g1 1 1 0 := rfl
  rw [ecl]
  dsimp only [letT]
  rw [truth_eq (H0.core c2).WX off49 (by decide), ob, mX_core c2, eXm]
  have e49h : ∀ r, eqOn N (wk (mX h) 0 N r) (wk (mX h) 0 N (h.1 49)) := fun r => H.trE r (h.1 49)
  have eT := e49h ((sI g1 1 1 0).1 49)
  generalize wk (mX h) 0 N ((sI g1 1 1 0).1 49) = T' at eT
  generalize wk (mX h) 0 N (h.1 49) = T at eT ⊢
  obtain ⟨r0, e3, f0⟩ := forget_eq (h := sR (sI g1 1 1 0) 49 T')
  rw [e3, ob]
  have c3 : Core (sI h 1 1 0) (sR (sR (sI g1 1 1 0) 49 T') 52 r0) := (c2.tr (Core.sR rfl)).tr (Core.sR rfl)
  have T3 : Tkn (sI h 1 1 0) (sR (sR (sI g1 1 1 0) 49 T') 52 r0) B M N k := T2
  have q49 : eqOn N ((sR (sR (sI g1 1 1 0) 49 T') 52 r0).1 49) T := eT
  have f3 : FR ((sR (sR (sI g1 1 1 0) 49 T') 52 r0).1 52) 0 none := f0
  generalize sR (sR (sI g1 1 1 0) 49 T') 52 r0 = g3 at c3 T3 q49 f3
  generalize sI h 1 1 0 = hh at H0 eXm c3 T3
  rw [← eXm]
  clear c2 T2 f0 e3 eT
  generalize hQ : auQ (mX hh) N M k B T = Q
  generalize hK : (fun g22 : AH => some (fX11_at 52 (nI w) g22, g22)) = K
  obtain ⟨g', hg, qc, -, -, qf⟩ := for_ex (F := fun m xx g => fX11_author_l94 K (nI w) (nI N) m xx g) K N (by omega) (fun i g => Core hh g ∧ Tkn hh g B M N k ∧ eqOn N (g.1 49) T ∧ FR (g.1 52) (ct Q (i * M)) ((fst Q 0 (i * M)).map (auT M))) (fun m i g hi hI => by
      obtain ⟨cg, Tg, q49, fg⟩ := hI
      show ∃ s', fX11_author_l94b (fX11_author_l94 K (nI w) (nI N) m) K (nI w) (nI N) (nI i) g = _ ∧ _
      unfold fX11_author_l94b
      rw [if_pos (nI_lt hi (by omega)), nI_1]
      obtain ⟨g', hg, q⟩ := for_ex (F := fun m' xx g => fX11_author_l103 (fun g21 => fX11_author_l94 K (nI w) (nI N) m (nI (i + 1)) g21) (nI w) (nI N) (nI i) m' xx g) (fun g21 => fX11_author_l94 K (nI w) (nI N) m (nI (i + 1)) g21) M (by omega) (fun v g => Core hh g ∧ Tkn hh g B M N k ∧ eqOn N (g.1 49) T ∧ FR (g.1 52) (ct Q (i * M + v)) ((fst Q 0 (i * M + v)).map (auT M))) (fun m' v g hv hI => by
          obtain ⟨cg, Tg, q49, fg⟩ := hI
          have Hg := H0.core cg
          show ∃ s', fX11_author_l103b (fX11_author_l103 (fun g21 => fX11_author_l94 K (nI w) (nI N) m (nI (i + 1)) g21) (nI w) (nI N) (nI i) m') (fun g21 => fX11_author_l94 K (nI w) (nI N) m (nI (i + 1)) g21) (nI w) (nI N) (nI i) (nI v) g = _ ∧ _
          unfold fX11_author_l103b
          rw [Hg.eX, if_pos (nI_lt hv (by omega)), at_in (show i < aln 49 by show _ < 20; omega), q49 i hi, nI_1]
          obtain ⟨d1, d2⟩ := code_dm (i := i) hv
          have eQ : Q (i * M + v) = (!decide (nI v = T i) && pb (auA (mX hh) N M k B T i v)) := by
            rw [← hQ]
            unfold auQ
            rw [d1, d2]
          by_cases e : nI v = T i
          · rw [if_pos e]
            exact ⟨g, rfl, cg, Tg, q49, fg.no (by rw [eQ]; simp [e])⟩
          · rw [if_neg e]
            unfold fX11_allCopiesCome
            obtain ⟨r, e1, q1⟩ := copyRow_ex (a := 49) (b := 50) (n := 20) (h := g) (by decide) rfl rfl
            have cr : Core hh (sR g 50 r) := cg.tr (Core.sR rfl)
            rw [e1, ob, slipIn_eq (H0.core cr).WX off50 (by decide) hi, ob, sR_at, mX_core cr, sR_sR]
            have esl : eqOn N (slp (mX hh) N i (nI v) r) (slp (mX hh) N i (nI v) T) := slp_cong (mX_ahead H0.WX) hi ((q1.le hN).tr q49)
            generalize slp (mX hh) N i (nI v) r = S' at esl
            have cS : Core hh (sR g 50 S') := cg.tr (Core.sR rfl)
            have TS : Tkn hh (sR g 50 S') B M N k := Tg
            have e50 : eqOn N ((sR g 50 S').1 50) (slp (mX hh) N i (nI v) T) := by rw [sR_at]; exact esl
            have e49' : eqOn N ((sR g 50 S').1 49) T := q49
            have fS : FR ((sR g 50 S').1 52) (ct Q (i * M + v)) ((fst Q 0 (i * M + v)).map (auT M)) := fg
            generalize sR g 50 S' = gS at cS TS e50 e49' fS
            obtain ⟨b, eb, qb⟩ := allComeFrom_eq TS hN hk e50
            rw [eb, ob]
            rcases qb with ⟨rfl, qb⟩ | ⟨rfl, qb⟩
            · rw [if_pos (Or.inr rfl), ob]
              dsimp only
              rw [if_neg (by decide)]
              have hct := ct_le Q (i * M + v)
              have hiM : i * M ≤ N * M := Nat.mul_le_mul_right M (by omega)
              obtain ⟨r2, n1, n2⟩ := fS.yes (a := nI i) (b := nI v) (d := -2) (by rw [eQ, pb_t (show auA (mX hh) N M k B T i v from qb)]; simp [e]) (by omega) (by unfold auT; rw [d1, d2])
              rw [n1]
              exact ⟨_, rfl, cS.tr (Core.sR rfl), TS, e49', n2⟩
            · rw [if_pos (Or.inl rfl), ob]
              dsimp only
              rw [if_pos rfl]
              exact ⟨gS, rfl, cS, TS, e49', fS.no (by rw [eQ, pb_f (show ¬ auA (mX hh) N M k B T i v from qb)]; simp)⟩) (fun m' g hI => by
          show fX11_author_l103b (fX11_author_l103 (fun g21 => fX11_author_l94 K (nI w) (nI N) m (nI (i + 1)) g21) (nI w) (nI N) (nI i) m') (fun g21 => fX11_author_l94 K (nI w) (nI N) m (nI (i + 1)) g21) (nI w) (nI N) (nI i) (nI M) g = _
          unfold fX11_author_l103b
          rw [(H0.core hI.1).eX, if_neg (nI_nlt (Nat.le_refl _) (by omega))]) fuel0 0 g (by omega) (by have := fuel_big; omega) ⟨cg, Tg, q49, fg⟩
      rw [Nat.succ_mul]
      exact ⟨g', hg, q⟩) (fun m g hI => by
      show fX11_author_l94b (fX11_author_l94 K (nI w) (nI N) m) K (nI w) (nI N) (nI N) g = _
      unfold fX11_author_l94b
      rw [if_neg (nI_nlt (Nat.le_refl _) (by omega))]) fuel0 0 g3 (by omega) (by have := fuel_big; omega) ⟨c3, T3, q49, by rw [Nat.zero_mul]; exact f3⟩
  refine ⟨g', g'.1 52, ?_, qc, qf⟩
  refine Eq.trans hg ?_
  rw [← hK]
  dsimp only
  rw [at_in (show w < aln 52 by show _ < 4; omega)]
