/-! ===== author: the model ===== -/
def cmM (m : Rw → Nat → Int32) (N M : Nat) (C S : Rw) : Prop := ∀ f, f < N → ¬ C f = S f → (∀ j, j < f → C j = S j) → clm M (C f) ∧ ∀ k, f < k → k < N → C k = m C k
theorem comesFrom_eq {N M k c : Nat} {h g : AH} {B S : Rw} (w : WM N M h) (hk : k ≤ 5) (hc : c < k) (cg : Core h g) (e109 : eqOn (k * N) (g.1 109) B) (e88 : eqOn N (g.1 88) S) : ∃ b r, fX12_comesFrom (nI c) g = some (b, sR g 110 r) ∧ Fg b (cmM (mM h) N M (cpr B N c) S) := by
  have hN := w.N
  obtain ⟨-, hm, m1, m2, -⟩ := w.2
  have wg := w.core cg
  have hcN : c * N + N ≤ k * N := by
    have : (c + 1) * N ≤ k * N := Nat.mul_le_mul_right N (by omega)
    rwa [Nat.succ_mul] at this
  have hk100 : k * N ≤ 5 * 20 := Nat.mul_le_mul hk hN
  unfold fX12_comesFrom
  generalize hK : (fun g5 : AH => fX12_comesFrom_l37 (fun (y11 : Int32) => if y11 = (g5.1 75 2) then some ((1 : Int32), g5) else if y11 < 0 ∨ 20 ≤ y11.toNatClampNeg then none else if (fX12_isClaim (g5.1 110 y11.toNatClampNeg) g5) = 0 then some ((0 : Int32), g5) else letT (y11 + (1 : Int32)) (fun v15 => fX12_comesFrom_l96 g5 fuel0 v15)) g5 fuel0 (0 : Int32)) = K
  obtain ⟨g', hg, r, er, qr⟩ := for_ex (F := fun m xx g => fX12_comesFrom_l2 K (nI c) m xx g) K N (by omega) (fun l g' => ∃ r, g' = sR g 110 r ∧ eqOn l r (cpr B N c)) (fun m l g' hl hI => by
      obtain ⟨r, er, qr⟩ := hI
      show ∃ s', fX12_comesFrom_l2b (fX12_comesFrom_l2 K (nI c) m) K (nI c) (nI l) g' = _ ∧ _
      unfold fX12_comesFrom_l2b
      have hsz : g'.1 75 2 = nI N := by rw [er]; exact wg.1
      have gi := gd (show N * c + l < 100 by rw [Nat.mul_comm]; omega) (by decide)
      have g20 := gd (show l < 20 by omega) (by decide)
      rw [hsz, if_pos (nI_lt hl (by omega)), nI_mul, nI_add, if_neg gi, if_neg g20, nI_clamp (show l < 2 ^ 31 by omega), nI_clamp (show N * c + l < 2 ^ 31 by rw [Nat.mul_comm]; omega), nI_1]
      dsimp only [letT]
      refine ⟨_, rfl, upd r l (B (c * N + l)), ?_, fun j hj => ?_⟩
      · have : g'.1 109 (N * c + l) = B (c * N + l) := by
          rw [er, sR_ne _ _ (by decide), e109 _ (by rw [Nat.mul_comm]; omega), Nat.mul_comm]
        rw [this, er, sI_sR, sR_at, sR_sR]
      · by_cases e : j = l
        · rw [e, upd_at]; rfl
        · rw [upd_ne _ _ e]; exact qr j (by omega)) (fun m g' hI => by
      obtain ⟨r, er, qr⟩ := hI
      show fX12_comesFrom_l2b (fX12_comesFrom_l2 K (nI c) m) K (nI c) (nI N) g' = _
      unfold fX12_comesFrom_l2b
      have hsz : g'.1 75 2 = nI N := by rw [er]; exact wg.1
      rw [hsz, if_neg (nI_nlt (Nat.le_refl _) (by omega))]) fuel0 0 g (by omega) (by have := fuel_big; omega) ⟨g.1 110, (sR_self _ _).symm, fun j hj => absurd hj (Nat.not_lt_zero _)⟩
  have hg2 : fX12_comesFrom_l2 K (nI c) fuel0 0 g = K (sR g 110 r) := by rw [← er]; exact hg
  rw [hg2, ← hK]
  dsimp only
  have w5 : WM N M (sR g 110 r) := wg
  have m5 : mM (sR g 110 r) = mM h := mM_core (cg.tr (Core.sR rfl))
  have e110 : eqOn N ((sR g 110 r).1 110) (cpr B N c) := by rw [sR_at]; exact qr
  have e88' : eqOn N ((sR g 110 r).1 88) S := e88
  have e750 : (sR g 110 r).1 75 0 = nI M := w5.2.2.1
  generalize hgg : sR g 110 r = g5 at w5 m5 e110 e88' e750
  generalize hK2 : (fun (y11 : Int32) => if y11 = (g5.1 75 2) then some ((1 : Int32), g5) else if y11 < 0 ∨ 20 ≤ y11.toNatClampNeg then none else if (fX12_isClaim (g5.1 110 y11.toNatClampNeg) g5) = 0 then some ((0 : Int32), g5) else letT (y11 + (1 : Int32)) (fun v15 => fX12_comesFrom_l96 g5 fuel0 v15)) = K2
  have k37 := for_fst (F := fun m xx => fX12_comesFrom_l37 K2 g5 m xx) (fun l => !decide (cpr B N c l = S l)) (fun j => K2 (nI j)) (K2 (nI N)) N (by omega) (fun m l hl => by
      show fX12_comesFrom_l37b (fX12_comesFrom_l37 K2 g5 m) K2 g5 (nI l) = _
      unfold fX12_comesFrom_l37b
      have g20 := gd (show l < 20 by omega) (by decide)
      rw [w5.1, if_pos (nI_lt hl (by omega)), if_neg g20, if_neg g20, nI_clamp (by omega), e110 l hl, e88' l hl, nI_1]
      by_cases e : cpr B N c l = S l
      · rw [if_pos e, if_neg (by simp [e])]
        rfl
      · rw [if_neg e, if_pos (by simp [e])]) (fun m => by
      show fX12_comesFrom_l37b (fX12_comesFrom_l37 K2 g5 m) K2 g5 (nI N) = _
      unfold fX12_comesFrom_l37b
      rw [w5.1, if_neg (nI_nlt (Nat.le_refl _) (by omega))]) fuel0 0 (by omega) (by have := fuel_big; omega)
  rw [Nat.sub_zero] at k37
  have k37' : fX12_comesFrom_l37 K2 g5 fuel0 0 = _ := k37
  rw [k37']
  cases hf : fst (fun l => !decide (cpr B N c l = S l)) 0 N with
  | none =>
    dsimp only
    rw [← hK2]
    dsimp only
    rw [w5.1, if_pos rfl]
    refine ⟨1, r, by rw [hgg], Or.inl ⟨rfl, fun f hfN hne _ => ?_⟩⟩
    have := fst_none hf f (Nat.zero_le _) (by omega)
    simp at this
    exact absurd this hne
  | some j =>
    obtain ⟨-, j2, j3, j4⟩ := fst_some hf
    have j3' : ¬ cpr B N c j = S j := by simpa using j3
    have j4' : ∀ i, i < j → cpr B N c i = S i := fun i hi => by simpa using j4 i (Nat.zero_le _) hi
    have only : ∀ f, ¬ cpr B N c f = S f → (∀ j, j < f → cpr B N c j = S j) → f = j := fun f hne hb => by
      rcases Nat.lt_trichotomy f j with a | a | a
      · exact absurd (j4' f a) hne
      · exact a
      · exact absurd (hb j a) j3'
    dsimp only
    rw [← hK2]
    dsimp only
    have g20 := gd (show j < 20 by omega) (by decide)
    rw [w5.1, if_neg (show ¬ nI j = nI N from ne_lit (by omega) (by omega) (by omega)), if_neg g20, nI_clamp (by omega), e110 j (by omega), nI_1]
    dsimp only [letT]
    rcases clm_M (v := cpr B N c j) e750 m2 with ⟨k1, k2⟩ | ⟨k1, k2⟩
    · rw [if_neg (by rw [k2]; decide)]
      have k96 := for_fst (F := fun m xx => fX12_comesFrom_l96 g5 m xx) (fun l => !decide (cpr B N c l = mM h (cpr B N c) l)) (fun _ => some ((0 : Int32), g5)) (some ((1 : Int32), g5)) N (by omega) (fun m l hl => by
          show fX12_comesFrom_l96b (fX12_comesFrom_l96 g5 m) g5 (nI l) = _
          unfold fX12_comesFrom_l96b
          have g20 := gd (show l < 20 by omega) (by decide)
          have emk : mM g5 (g5.1 110) l = mM h (cpr B N c) l := by
            rw [m5]
            exact mM_ahead w l hl _ _ (fun i hi => e110 i (by omega))
          rw [w5.1, if_pos (nI_lt hl (by omega)), if_neg g20, makes_eq w5 hl (by decide), ob, nI_clamp (by omega), e110 l hl, emk, nI_1]
          by_cases e : cpr B N c l = mM h (cpr B N c) l
          · rw [if_pos e, if_neg (by simp [← e])]
          · rw [if_neg e, if_pos (by simp [e])]) (fun m => by
          show fX12_comesFrom_l96b (fX12_comesFrom_l96 g5 m) g5 (nI N) = _
          unfold fX12_comesFrom_l96b
          rw [w5.1, if_neg (nI_nlt (Nat.le_refl _) (by omega))]) fuel0 (j + 1) (by omega) (by have := fuel_big; omega)
      have k96' : fX12_comesFrom_l96 g5 fuel0 (nI (j + 1)) = _ := k96
      rw [k96']
      cases h2 : fst (fun l => !decide (cpr B N c l = mM h (cpr B N c) l)) (j + 1) (N - (j + 1)) with
      | none =>
        refine ⟨1, r, by rw [hgg], Or.inl ⟨rfl, fun f hfN hne hb => ?_⟩⟩
        rw [only f hne hb]
        refine ⟨k1, fun i h3 h4 => ?_⟩
        have := fst_none h2 i (by omega) (by omega)
        simpa using this
      | some i =>
        obtain ⟨i1, i2, i3, -⟩ := fst_some h2
        refine ⟨0, r, by rw [hgg], Or.inr ⟨rfl, fun q => ?_⟩⟩
        have := (q j (by omega) j3' j4').2 i (by omega) (by omega)
        simp [← this] at i3
    · rw [if_pos k2]
      exact ⟨0, r, by rw [hgg], Or.inr ⟨rfl, fun q => k1 (q j (by omega) j3' j4').1⟩⟩
theorem au161 {N M k : Nat} {h g : AH} {B S : Rw} {K : Int32 → AH → Option (Int32 × AH)} {w2 a b c : Int32} (w : WM N M h) (hk : k ≤ 5) (cg : Core h g) (e109 : eqOn (k * N) (g.1 109) B) (e88 : eqOn N (g.1 88) S) : ∃ y r, fX12_author_l161 K (nI k) w2 a b c fuel0 1 0 g = K y (sR g 110 r) ∧ Fg y (∀ c', c' < k → cmM (mM h) N M (cpr B N c') S) := by
  obtain ⟨s, hs, ⟨r, er⟩, q⟩ := for_ex (F := fun m xx (s : Int32 × AH) => fX12_author_l161 K (nI k) w2 a b c m s.1 xx s.2) (fun s => K s.1 s.2) k (by omega) (fun i s => (∃ r, s.2 = sR g 110 r) ∧ Fg s.1 (∀ c', c' < i → cmM (mM h) N M (cpr B N c') S)) (fun m i s hi hI => by
      obtain ⟨y, g'⟩ := s
      obtain ⟨⟨r, er⟩, q⟩ := hI
      dsimp only at er q
      subst er
      show ∃ s', fX12_author_l161b (fX12_author_l161 K (nI k) w2 a b c m) K (nI k) w2 a b c y (nI i) (sR g 110 r) = _ ∧ _
      unfold fX12_author_l161b
      rw [if_pos (nI_lt hi (by omega)), nI_1]
      rcases q with ⟨rfl, q⟩ | ⟨rfl, q⟩
      · obtain ⟨b', r2, eb, qb⟩ := comesFrom_eq (g := sR g 110 r) w hk hi (cg.tr (Core.sR rfl)) e109 e88
        rw [if_neg (by decide), eb, ob, sR_sR]
        dsimp only
        rcases qb with ⟨rfl, qb⟩ | ⟨rfl, qb⟩
        · rw [if_neg (by decide)]
          refine ⟨(1, sR g 110 r2), rfl, ⟨r2, rfl⟩, Or.inl ⟨rfl, fun c' h1 => ?_⟩⟩
          by_cases e : c' = i
          · rw [e]; exact qb
          · exact q c' (by omega)
        · rw [if_pos rfl]
          exact ⟨(0, sR g 110 r2), rfl, ⟨r2, rfl⟩, Or.inr ⟨rfl, fun p => qb (p i (by omega))⟩⟩
      · rw [if_pos rfl]
        exact ⟨(0, sR g 110 r), rfl, ⟨r, rfl⟩, Or.inr ⟨rfl, fun p => q (fun c' h1 => p c' (by omega))⟩⟩) (fun m s hI => by
      show fX12_author_l161b (fX12_author_l161 K (nI k) w2 a b c m) K (nI k) w2 a b c s.1 (nI k) s.2 = _
      unfold fX12_author_l161b
      rw [if_neg (nI_nlt (Nat.le_refl _) (by omega))]) fuel0 0 (1, g) (by omega) (by have := fuel_big; omega) ⟨⟨g.1 110, (sR_self _ _).symm⟩, Or.inl ⟨rfl, fun c' h1 => absurd h1 (Nat.not_lt_zero _)⟩⟩
  refine ⟨s.1, r, ?_, q⟩
  rw [← er]
  exact hs
noncomputable def auM (m : Rw → Nat → Int32) (N M k : Nat) (B T : Rw) (c : Nat) : Bool := !decide (nI (c % M) = T (c / M)) && pb (∀ c', c' < k → cmM m N M (cpr B N c') (slp m N (c / M) (nI (c % M)) T))
theorem ans_step {Q : Nat → Bool} {c : Nat} (hc : c < 1000000) (hq : Q c = true) : (if ans (fst Q 0 c) = -1 then nI c else ans (fst Q 0 c)) = ans (fst Q 0 (c + 1)) := by
  rw [fst_last, Nat.zero_add, hq]
  cases h2 : fst Q 0 c with
  | none => rw [if_pos (by rfl)]; rfl
  | some j =>
    have := (fst_some h2).2.1
    rw [if_neg (show ¬ ans (some j) = -1 from fun q => nI_pos (n := j) (by omega) (by rw [show ans (some j) = nI j from rfl] at q; rw [q]; decide))]
theorem ans_same {Q : Nat → Bool} {c : Nat} (hq : Q c = false) : fst Q 0 (c + 1) = fst Q 0 c := by
  rw [fst_last, Nat.zero_add, hq]
  cases fst Q 0 c <;> rfl
theorem authorM {N M k p T0 : Nat} {h : AH} {B : Rw} (w : WM N M h) (k1 : 1 ≤ k) (hk : k ≤ 5) (hp : p ≤ 2) (h0 : 0 < N) (hT0 : T0 ≤ 220) (t3 : h.1 75 10 = nI T0) (hkN : k * N ≤ T0) (eB : ∀ q, q < k * N → h.1 82 q &&& 255 = B q) : ∃ h1, mo_author (nI k) (nI p) h = some ((if p = 0 then nI (ct (auM (mM h) N M k B (wk (mM h) 0 N (h.1 87))) (N * M)) else match fst (auM (mM h) N M k B (wk (mM h) 0 N (h.1 87))) 0 (N * M) with | none => -2 | some c => if p = 1 then nI (c / M) else nI (c % M)), h1) ∧ Core (sI h 75 10 0) h1 := by
  have hN := w.N
  obtain ⟨-, hm, m1, m2, -⟩ := id w.2
  have hmp := nI_m m1 m2
  have hNM : N * M ≤ 20 * 97 := Nat.mul_le_mul hN m2
  have hk100 : k * N ≤ 5 * 20 := Nat.mul_le_mul hk hN
  unfold mo_author fX12_author
  rw [in_yes (show ¬ nI k < 1 from nI_nlt (b := 1) (by omega) (by omega)) (show ¬ (5 : Int32) < nI k from nI_nlt (a := 5) (by omega) (by decide)), if_neg (by decide), in_yes (nI_pos (by omega)) (show ¬ (2 : Int32) < nI p from nI_nlt (a := 2) (by omega) (by decide)), if_neg (by decide), w.1, if_neg (show ¬ nI N = 0 from ne_lit (j := 0) (by omega) (by decide) (by omega)), nI_mul, t3, if_neg (nI_nlt (by omega) (by omega))]
  dsimp only [letT]
  have w0 : WM N M (sI h 75 10 0) := w
  have e87h : (sI h 75 10 0).1 87 = h.1 87 := rfl
  have eMm : mM (sI h 75 10 0) = mM h := rfl
  have eB0 : ∀ q, q < k * N → (sI h 75 10 0).1 82 q &&& 255 = B q := eB
  rw [← e87h, ← eMm]
  generalize sI h 75 10 0 = hh at w0 eB0 ⊢
  have hm0 : hh.1 75 0 = nI M := w0.2.2.1
  generalize hK1 : (fun (y33 : Int32) (y34 : Int32) (g35 : AH) => if nI p = 0 then some (y33, g35) else if y34 = (-1 : Int32) then some ((-2 : Int32), g35) else if nI p = (1 : Int32) then (if (g35.1 75 0) = 0 then none else some (y34 / (g35.1 75 0), g35)) else (if (g35.1 75 0) = 0 then none else some (jrem y34 (g35.1 75 0), g35))) = K1
  generalize hK : (fun g10 : AH => (fX12_laysTruth g10).bind (fun b11 => fX12_author_l91 K1 (nI k) (nI p) fuel0 (0 : Int32) (-1 : Int32) (0 : Int32) b11)) = K
  obtain ⟨g1, hg1, r, er, q109⟩ := for_ex (F := fun m xx g => fX12_author_l47 K (nI k) (nI p) m xx g) K (k * N) (by omega) (fun q g' => ∃ r, g' = sR hh 109 r ∧ eqOn q r B) (fun m q g' hq hI => by
      obtain ⟨r, er, qr⟩ := hI
      show ∃ s', fX12_author_l47b (fX12_author_l47 K (nI k) (nI p) m) K (nI k) (nI p) (nI q) g' = _ ∧ _
      unfold fX12_author_l47b
      have hsz : g'.1 75 2 = nI N := by rw [er]; exact w0.1
      have g2 := gd (show q < 220 by omega) (by decide)
      have g3 := gd (show q < 100 by omega) (by decide)
      rw [hsz, nI_mul, if_pos (nI_lt hq (by omega)), if_neg g2, if_neg g3, nI_clamp (by omega), nI_1]
      dsimp only [letT]
      refine ⟨_, rfl, upd r q (B q), ?_, fun j hj => ?_⟩
      · have : g'.1 82 q &&& 255 = B q := by
          rw [er, sR_ne _ _ (by decide)]
          exact eB0 q hq
        rw [this, er, sI_sR, sR_at, sR_sR]
      · by_cases e : j = q
        · rw [e, upd_at]
        · rw [upd_ne _ _ e]; exact qr j (by omega)) (fun m g' hI => by
      obtain ⟨r, er, qr⟩ := hI
      show fX12_author_l47b (fX12_author_l47 K (nI k) (nI p) m) K (nI k) (nI p) (nI (k * N)) g' = _
      unfold fX12_author_l47b
      have hsz : g'.1 75 2 = nI N := by rw [er]; exact w0.1
      rw [hsz, nI_mul, if_neg (nI_nlt (Nat.le_refl _) (by omega))]) fuel0 0 hh (by omega) (by have := fuel_big; omega) ⟨hh.1 109, (sR_self _ _).symm, fun j hj => absurd hj (Nat.not_lt_zero _)⟩
  have hg2 : fX12_author_l47 K (nI k) (nI p) fuel0 0 hh = K (sR hh 109 r) := by rw [← er]; exact hg1
  rw [hg2, ← hK]
  dsimp only
  have c1 : Core hh (sR hh 109 r) := Core.sR rfl
  rw [laysTruth_eq (w0.core c1), ob, mM_core c1, show (sR hh 109 r).1 87 = hh.1 87 from rfl]
  generalize wk (mM hh) 0 N (hh.1 87) = T
  have c2 : Core hh (sR (sR hh 109 r) 87 T) := c1.tr (Core.sR rfl)
  have q2 : eqOn (k * N) ((sR (sR hh 109 r) 87 T).1 109) B := q109
  have e2 : (sR (sR hh 109 r) 87 T).1 87 = T := sR_at _ _ _
  generalize sR (sR hh 109 r) 87 T = g2 at c2 q2 e2
  generalize hQ : auM (mM hh) N M k B T = Q
  obtain ⟨s, hs, q1, q3, qc, -, -⟩ := for_ex (F := fun m xx (s : Int32 × Int32 × AH) => fX12_author_l91 K1 (nI k) (nI p) m s.1 s.2.1 xx s.2.2) (fun s => K1 s.1 s.2.1 s.2.2) (N * M) (by omega) (fun c s => s.1 = nI (ct Q c) ∧ s.2.1 = ans (fst Q 0 c) ∧ Core hh s.2.2 ∧ s.2.2.1 87 = T ∧ eqOn (k * N) (s.2.2.1 109) B) (fun m c s hc hI => by
      obtain ⟨a, b, g⟩ := s
      obtain ⟨q1, q2, cg, e87, q109⟩ := hI
      dsimp only at q1 q2 cg e87 q109
      show ∃ s', fX12_author_l91b (fX12_author_l91 K1 (nI k) (nI p) m) K1 (nI k) (nI p) a b (nI c) g = _ ∧ _
      unfold fX12_author_l91b
      dsimp only [letT]
      have hi : c / M < N := Nat.div_lt_of_lt_mul (by rw [Nat.mul_comm]; exact hc)
      have gg := gd (show c / M < 20 by omega) (by decide)
      have wg := w0.core cg
      rw [wg.1, cg.P 75 0 (by decide), hm0, nI_mul, if_pos (nI_lt hc (by omega)), if_neg hmp.2, if_neg hmp.2, nI_div (by omega) (by omega) (by omega), jrem_nI (by omega) (by omega) (by omega), if_neg gg, if_neg hmp.2, nI_clamp (by omega), e87, nI_1]
      have eQ : Q c = (!decide (nI (c % M) = T (c / M)) && pb (∀ c', c' < k → cmM (mM hh) N M (cpr B N c') (slp (mM hh) N (c / M) (nI (c % M)) T))) := by
        rw [← hQ]
        rfl
      by_cases e : nI (c % M) = T (c / M)
      · rw [if_pos e]
        have q0 : Q c = false := by rw [eQ]; simp [e]
        refine ⟨(a, b, g), rfl, ?_, ?_, cg, e87, q109⟩
        · rw [ct_succ, q0]; exact q1
        · rw [ans_same q0]; exact q2
      · rw [if_neg e]
        obtain ⟨r, er, qr⟩ := slips_eq (a := 87) (b := 88) (v := nI (c % M)) wg (by unfold offM; omega) (by decide) (by decide) (by decide) hi
        rw [mM_core cg, e87] at qr
        rw [er, ob]
        have cr : Core hh (sR g 88 r) := cg.tr (Core.sR rfl)
        obtain ⟨y, r2, ey, qy⟩ := au161 (K := fun (y27 : Int32) (g28 : AH) => if y27 = 0 then fX12_author_l91 K1 (nI k) (nI p) m a b (nI (c + 1)) g28 else if b = (-1 : Int32) then fX12_author_l91 K1 (nI k) (nI p) m (a + 1) (nI c) (nI (c + 1)) g28 else fX12_author_l91 K1 (nI k) (nI p) m (a + 1) b (nI (c + 1)) g28) (w2 := nI p) (a := a) (b := b) (c := nI c) (g := sR g 88 r) (S := slp (mM hh) N (c / M) (nI (c % M)) T) w0 hk cr q109 (by rw [sR_at]; exact qr)
        rw [ey]
        have c3 : Core hh (sR (sR g 88 r) 110 r2) := cr.tr (Core.sR rfl)
        have e873 : (sR (sR g 88 r) 110 r2).1 87 = T := e87
        have q1093 : eqOn (k * N) ((sR (sR g 88 r) 110 r2).1 109) B := q109
        generalize sR (sR g 88 r) 110 r2 = g3 at c3 e873 q1093
        rcases qy with ⟨rfl, qy⟩ | ⟨rfl, qy⟩
        · rw [if_neg (by decide)]
          have q0 : Q c = true := by rw [eQ, pb_t qy]; simp [e]
          have ea : a + 1 = nI (ct Q (c + 1)) := by
            rw [ct_succ, q0, q1, nI_1]
            rfl
          have eb := ans_step (Q := Q) (c := c) (by omega) q0
          rw [← q2] at eb
          by_cases b1 : b = -1
          · rw [if_pos b1] at eb ⊢
            exact ⟨(a + 1, nI c, g3), rfl, ea, eb, c3, e873, q1093⟩
          · rw [if_neg b1] at eb ⊢
            exact ⟨(a + 1, b, g3), rfl, ea, eb, c3, e873, q1093⟩
        · rw [if_pos rfl]
          have q0 : Q c = false := by rw [eQ, pb_f qy]; simp
          refine ⟨(a, b, g3), rfl, ?_, ?_, c3, e873, q1093⟩
          · rw [ct_succ, q0]; exact q1
          · rw [ans_same q0]; exact q2) (fun m s hI => by
      show fX12_author_l91b (fX12_author_l91 K1 (nI k) (nI p) m) K1 (nI k) (nI p) s.1 s.2.1 (nI (N * M)) s.2.2 = _
      unfold fX12_author_l91b
      rw [(w0.core hI.2.2.1).1, hI.2.2.1.P 75 0 (by decide), hm0, nI_mul, if_neg (nI_nlt (Nat.le_refl _) (by omega))]) fuel0 0 (0, -1, g2) (by omega) (by have := fuel_big; omega) ⟨rfl, rfl, c2, e2, q2⟩
  refine ⟨s.2.2, ?_, qc⟩
  refine Eq.trans hs ?_
  rw [← hK1, q1, q3]
  dsimp only
  by_cases p0 : p = 0
  · rw [if_pos (by rw [p0]; rfl), if_pos p0]
  · rw [if_neg (show ¬ nI p = 0 from ne_lit (j := 0) (by omega) (by decide) p0), if_neg p0]
    cases hf : fst Q 0 (N * M) with
    | none => rfl
    | some c =>
      have hc := (fst_some hf).2.1
      rw [show ans (some c) = nI c from rfl, if_neg (fun q => nI_pos (n := c) (by omega) (by rw [q]; decide)), qc.P 75 0 (by decide), hm0, if_neg hmp.2, if_neg hmp.2, nI_div (by omega) (by omega) (by omega), jrem_nI (by omega) (by omega) (by omega)]
      by_cases p1 : p = 1
      · rw [if_pos (by rw [p1]; rfl)]
        simp [p1]
      · rw [if_neg (show ¬ nI p = 1 from ne_lit (j := 1) (by omega) (by decide) p1)]
        simp [p1]
