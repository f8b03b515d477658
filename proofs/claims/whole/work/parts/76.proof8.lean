/-! ===== proof ===== -/
theorem become_eq {g : AH} : ∃ g', fX6_become g = some g' ∧ g'.1 6 0 = g.1 26 0 ∧ eqOn 20 (g'.1 7) (g.1 27) ∧ eqOn 20 (g'.1 8) (g.1 28) ∧ eqOn 20 (g'.1 9) (g.1 29) ∧ eqOn 20 (g'.1 10) (g.1 30) ∧ eqOn 20 (g'.1 11) (g.1 31) ∧ eqOn 20 (g'.1 12) (g.1 32) ∧ eqOn 20 (g'.1 13) (g.1 33) ∧ ∀ c, c < 6 ∨ 13 < c → g'.1 c = g.1 c := by
  obtain ⟨rC, e3, q3⟩ := copyRow_ex (a := 27) (b := 7) (n := 20) (h := sI g 6 0 (g.1 26 0)) (by decide) rfl rfl
  obtain ⟨rK, e4, q4⟩ := copyRow_ex (a := 28) (b := 8) (n := 20) (h := sR (sI g 6 0 (g.1 26 0)) 7 rC) (by decide) rfl rfl
  obtain ⟨rF, e5, q5⟩ := copyRow_ex (a := 29) (b := 9) (n := 20) (h := sR (sR (sI g 6 0 (g.1 26 0)) 7 rC) 8 rK) (by decide) rfl rfl
  obtain ⟨rS, e6, q6⟩ := copyRow_ex (a := 30) (b := 10) (n := 20) (h := sR (sR (sR (sI g 6 0 (g.1 26 0)) 7 rC) 8 rK) 9 rF) (by decide) rfl rfl
  obtain ⟨rD, e7, q7⟩ := copyRow_ex (a := 31) (b := 11) (n := 20) (h := sR (sR (sR (sR (sI g 6 0 (g.1 26 0)) 7 rC) 8 rK) 9 rF) 10 rS) (by decide) rfl rfl
  obtain ⟨rU, e8, q8⟩ := copyRow_ex (a := 32) (b := 12) (n := 20) (h := sR (sR (sR (sR (sR (sI g 6 0 (g.1 26 0)) 7 rC) 8 rK) 9 rF) 10 rS) 11 rD) (by decide) rfl rfl
  obtain ⟨rN, e9, q9⟩ := copyRow_ex (a := 33) (b := 13) (n := 20) (h := sR (sR (sR (sR (sR (sR (sI g 6 0 (g.1 26 0)) 7 rC) 8 rK) 9 rF) 10 rS) 11 rD) 12 rU) (by decide) rfl rfl
  refine ⟨sR (sR (sR (sR (sR (sR (sR (sI g 6 0 (g.1 26 0)) 7 rC) 8 rK) 9 rF) 10 rS) 11 rD) 12 rU) 13 rN, ?_, rfl, q3, q4, q5, q6, q7, q8, q9, fun c hc => ?_⟩
  · unfold fX6_become
    rw [letT_eq, e3, ob, e4, ob, e5, ob, e6, ob, e7, ob, e8, ob, e9, ob]
  · rw [sR_ne _ _ (by omega), sR_ne _ _ (by omega), sR_ne _ _ (by omega), sR_ne _ _ (by omega), sR_ne _ _ (by omega), sR_ne _ _ (by omega), sR_ne _ _ (by omega), sI_ne _ _ _ (by omega)]
theorem proofM105 {N : Nat} {g : AH} (hs : g.1 75 2 = nI N) (hN : N ≤ 20) : ∃ g', fX12_proof_l105 fuel0 0 g = some (nI N, g') ∧ (∀ i, i < N → g'.1 77 i = g.1 83 i ∧ g'.1 78 i = g.1 84 i ∧ g'.1 79 i = g.1 85 i ∧ g'.1 80 i = g.1 86 i) ∧ ∀ c, c < 77 ∨ 80 < c → g'.1 c = g.1 c := by
  obtain ⟨g', e, q1, q2⟩ := for_ex (F := fun m xx g' => fX12_proof_l105 m xx g') (fun g' => some (nI N, g')) N (by omega) (fun k g' => (∀ i, i < k → g'.1 77 i = g.1 83 i ∧ g'.1 78 i = g.1 84 i ∧ g'.1 79 i = g.1 85 i ∧ g'.1 80 i = g.1 86 i) ∧ ∀ c, c < 77 ∨ 80 < c → g'.1 c = g.1 c) (fun m k g' hk hI => by
      obtain ⟨q1, q2⟩ := hI
      show ∃ s', fX12_proof_l105b (fX12_proof_l105 m) (nI k) g' = _ ∧ _
      unfold fX12_proof_l105b
      have gk := gd (show k < 20 by omega) (show 20 ≤ 4000 by decide)
      rw [q2 75 (by omega), hs, if_pos (nI_lt hk (by omega))]
      simp only [gk, if_false, letT_eq]
      rw [nI_clamp (by omega), nI_1]
      have r84 : ∀ v, (sI g' 77 k v).1 84 = g'.1 84 := fun v => sI_ne _ _ _ (by decide)
      have r85 : ∀ v w, (sI (sI g' 77 k v) 78 k w).1 85 = g'.1 85 := fun v w => by rw [sI_ne _ _ _ (by decide), sI_ne _ _ _ (by decide)]
      have r86 : ∀ v w z, (sI (sI (sI g' 77 k v) 78 k w) 79 k z).1 86 = g'.1 86 := fun v w z => by rw [sI_ne _ _ _ (by decide), sI_ne _ _ _ (by decide), sI_ne _ _ _ (by decide)]
      rw [r84, r85, r86, q2 83 (by omega), q2 84 (by omega), q2 85 (by omega), q2 86 (by omega)]
      refine ⟨_, rfl, fun i hi => ?_, fun c hc => ?_⟩
      · have c77 : (sI (sI (sI (sI g' 77 k (g.1 83 k)) 78 k (g.1 84 k)) 79 k (g.1 85 k)) 80 k (g.1 86 k)).1 77 = upd (g'.1 77) k (g.1 83 k) := by rw [sI_ne _ _ _ (by decide), sI_ne _ _ _ (by decide), sI_ne _ _ _ (by decide), sI_at]
        have c78 : (sI (sI (sI (sI g' 77 k (g.1 83 k)) 78 k (g.1 84 k)) 79 k (g.1 85 k)) 80 k (g.1 86 k)).1 78 = upd (g'.1 78) k (g.1 84 k) := by rw [sI_ne _ _ _ (by decide), sI_ne _ _ _ (by decide), sI_at, sI_ne _ _ _ (by decide)]
        have c79 : (sI (sI (sI (sI g' 77 k (g.1 83 k)) 78 k (g.1 84 k)) 79 k (g.1 85 k)) 80 k (g.1 86 k)).1 79 = upd (g'.1 79) k (g.1 85 k) := by rw [sI_ne _ _ _ (by decide), sI_at, sI_ne _ _ _ (by decide), sI_ne _ _ _ (by decide)]
        have c80 : (sI (sI (sI (sI g' 77 k (g.1 83 k)) 78 k (g.1 84 k)) 79 k (g.1 85 k)) 80 k (g.1 86 k)).1 80 = upd (g'.1 80) k (g.1 86 k) := by rw [sI_at, sI_ne _ _ _ (by decide), sI_ne _ _ _ (by decide), sI_ne _ _ _ (by decide)]
        rw [c77, c78, c79, c80]
        by_cases e : i = k
        · rw [e, upd_at, upd_at, upd_at, upd_at]; exact ⟨rfl, rfl, rfl, rfl⟩
        · rw [upd_ne _ _ e, upd_ne _ _ e, upd_ne _ _ e, upd_ne _ _ e]; exact q1 i (by omega)
      · rw [sI_ne _ _ _ (by omega), sI_ne _ _ _ (by omega), sI_ne _ _ _ (by omega), sI_ne _ _ _ (by omega)]
        exact q2 c hc) (fun m g' hI => by
      show fX12_proof_l105b (fX12_proof_l105 m) (nI N) g' = _
      unfold fX12_proof_l105b
      rw [hI.2 75 (by omega), hs, if_neg (nI_nlt (Nat.le_refl _) (by omega))]) fuel0 0 g (by omega) (by have := fuel_big; omega) ⟨fun i hi => absurd hi (Nat.not_lt_zero _), fun _ _ => rfl⟩
  exact ⟨g', e, q1, q2⟩
/-- the tape emptied on both sides -/
def T0 (h : AH) : AH := sI (sI h 1 1 0) 75 10 0
theorem Inv.t0 {h : AH} (I : Inv h) : Inv (T0 h) := by
  obtain ⟨⟨N, M, x, H⟩, hk, ⟨T, t1, t2, t3, t4⟩, n, hL⟩ := I
  exact ⟨⟨N, M, x, H⟩, hk, ⟨0, by omega, rfl, rfl, t4⟩, n, hL⟩
theorem neg_np {f : Nat} (h : f < 100000) : ¬ (0 : Int32) < -(nI f) := by
  rw [Int32.lt_iff_toInt_lt, sb_negT (by omega)]
  show ¬ (0 : Int) < -(f : Int)
  omega
theorem core_t0 {h g : AH} (h1 : ∀ c ∈ coreC, g.1 c = h.1 c) (h2 : ∀ q ∈ coreS, q ≠ (1, 1) → q ≠ (75, 10) → g.1 q.1 q.2 = h.1 q.1 q.2) (h3 : g.1 1 1 = 0) (h4 : g.1 75 10 = 0) : Core (T0 h) g := by
  refine ⟨fun c hc => ?_, fun q hq => ?_⟩
  · have c1 : c ≠ 1 := fun e => by subst e; exact absurd hc (by decide)
    have c2 : c ≠ 75 := fun e => by subst e; exact absurd hc (by decide)
    unfold T0
    rw [h1 c hc, sI_ne _ _ _ c2, sI_ne _ _ _ c1]
  · by_cases a : q = (1, 1)
    · rw [a]; exact h3
    · by_cases b : q = (75, 10)
      · rw [b]; exact h4
      · rw [h2 q hq a b]
        unfold T0
        by_cases e1 : q.1 = 75
        · have e2 : q.2 ≠ 10 := fun z => b (Prod.ext e1 z)
          rw [e1, sI_at, upd_ne _ _ e2, sI_ne _ _ _ (by decide)]
        · rw [sI_ne _ _ _ e1]
          by_cases e3 : q.1 = 1
          · have e4 : q.2 ≠ 1 := fun z => a (Prod.ext e3 z)
            rw [e3, sI_at, upd_ne _ _ e4]
          · rw [sI_ne _ _ _ e3]
theorem coreC_p : ∀ c ∈ coreC, c ≠ 1 ∧ c ≠ 75 ∧ (c < 26 ∨ 33 < c) ∧ (c < 83 ∨ 86 < c) := by decide
theorem coreS_p : ∀ q ∈ coreS, (q.1 = 1 → q = (1, 1)) ∧ (q.1 ≠ 1 → (q.1 < 26 ∨ 33 < q.1) ∧ (q.1 < 83 ∨ 86 < q.1)) ∧ (q.1 = 75 → q.2 ≠ 11 ∧ q.2 ≠ 12 ∧ q.2 ≠ 13 ∧ q.2 ≠ 14 ∧ q.2 ≠ 15) := by decide
theorem st_proof (p : Int32) {h : AH} (I : Inv h) : St (xo_proof p) (mo_proof p) h := by
  obtain ⟨⟨N, M, x, H⟩, hkp, ⟨T, t1, t2, t3, t4⟩, nz, hL⟩ := id I
  have hM := H.M97
  by_cases c1 : p < 1
  · refine St.ro (r := -1) I ?_ .rf ?_ .rf
    · unfold xo_proof fX11_proof
      rw [if_pos c1]
    · unfold mo_proof fX12_proof
      rw [in_no (Or.inl c1), if_pos rfl]
  by_cases c2 : (200 : Int32) < p
  · refine St.ro (r := -1) I ?_ .rf ?_ .rf
    · unfold xo_proof fX11_proof
      rw [if_neg c1, if_pos c2]
    · unfold mo_proof fX12_proof
      rw [in_no (Or.inr c2), if_pos rfl]
  have c0 : ¬ p < 0 := fun q => c1 (fa_trans q (by decide))
  obtain ⟨n, hn0, rfl⟩ := nI_of c0
  have n1 : 1 ≤ n := by
    by_cases a : 1 ≤ n
    · exact a
    · have : n = 0 := by omega
      rw [this] at c1
      exact absurd (show nI 0 < 1 by decide) c1
  have n200 : n ≤ 200 := by
    by_cases a : n ≤ 200
    · exact a
    · exact absurd (nI_lt (a := 200) (b := n) (by omega) hn0) c2
  by_cases c3 : T < n
  · refine St.ro (r := -1) I ?_ .rf ?_ .rf
    · unfold xo_proof fX11_proof
      rw [if_neg c1, if_neg c2, t2, if_pos (nI_lt c3 (by omega))]
    · unfold mo_proof fX12_proof
      rw [in_yes c1 c2, if_neg (by decide), t3, if_pos (nI_lt c3 (by omega))]
  -- the text
  let B : Nat → Int32 := fun i => if i < n then h.1 2 i else -1
  have t : Txt B n := ⟨n200, fun i hi => by
    obtain ⟨b, hb, e, -⟩ := t4 i (by omega)
    exact ⟨b, hb, (if_pos hi).trans e⟩, fun i hi => if_neg (by omega)⟩
  have hB : ∀ i, i < n → h.1 2 i = B i := fun i hi => (if_pos hi).symm
  obtain ⟨x1, s1, fc, f11, f2⟩ := begin_sd (h := h) t hB
  have eb : fX7_readProof (nI n) (h.1 3 0) h = fX7_readProof_l17 (fun (g10 : AH) => some (-(g10.1 1 4), g10)) (fun (g11 : AH) => some (-(g11.1 1 4), g11)) (nI M) fuel0 0 (sI (fX10_beginText (nI n) h) 26 0 0) := by
    unfold fX7_readProof
    rw [letT_eq, letT_eq, H.eX]
    unfold fX6_clear_1
    rw [letT_eq]
  generalize fX10_beginText (nI n) h = gb at x1 s1 fc f11 f2 eb
  have fz : ∀ c, c ≠ 26 → (sI gb 26 0 0).1 c = gb.1 c := fun c hc => sI_ne _ _ _ hc
  have e26 : (sI gb 26 0 0).1 26 0 = nI 0 := by rw [sI_at, upd_at]; rfl
  have x2 : Tx B n (sI gb 26 0 0) := by unfold Tx; rw [fz 1 (by decide), fz 2 (by decide)]; exact x1
  have s2 : Sd B n 0 (sI gb 26 0 0) := s1.add (fz 1 (by decide))
  have w2 : Wp ([] : List Ln).length M (sI gb 26 0 0) := ⟨e26, fun i hi => absurd hi (Nat.not_lt_zero i), fun i hi => absurd hi (Nat.not_lt_zero i), fun i hi => absurd hi (Nat.not_lt_zero i)⟩
  obtain ⟨r1, r2⟩ := readProof17 t hM.2 21 0 fuel0 [] (sI gb 26 0 0) rfl (by decide) (by have := fuel_big; omega) x2 s2 w2 (fun i L z => by cases z)
  have ez : nI ([] : List Ln).length = 0 := rfl
  rw [ez] at r1 r2
  -- what the class leaves
  have fX : ∀ g', PFr (sI gb 26 0 0) g' → (∀ c, c ≠ 1 → c < 26 ∨ 33 < c → g'.1 c = h.1 c) := fun g' pf c h1 h2 => by
    rw [pf.1 c h1 h2, fz c (by omega), fc c h1]
  have sX : ∀ {g' : AH} {a : Int32}, fX7_readProof (nI n) (h.1 3 0) h = some (a, g') → xo_proof (nI n) h = if 0 < a then (fX6_become (sI g' 1 1 0)).bind (fun b8 => some (a, b8)) else some (a, sI g' 1 1 0) := fun {g' a} e => by
    unfold xo_proof fX11_proof
    rw [if_neg c1, if_neg c2, t2, if_neg (nI_nlt (by omega) (by omega)), e, ob]
    unfold fX10_clear
    rw [letT_eq, letT_eq]
  -- the model, from any heap that has what it needs
  have sM : ∀ g1 : AH, (∀ c, c = 75 ∨ c = 82 → g1.1 c = h.1 c) → ∃ g5 : AH, Tm B n g5 ∧ g5.1 75 11 = nI 0 ∧ g5.1 75 15 = nI ([] : List Ln).length ∧ g5.1 75 0 = nI M ∧ (∀ c, c ≠ 75 → g5.1 c = g1.1 c) ∧ (∀ j, j ≠ 11 → j ≠ 12 → j ≠ 15 → g5.1 75 j = g1.1 75 j) ∧ mo_proof (nI n) g1 = (fX12_readsLine g5).bind (fun b => fX12_proof_l41 (fun (y16 : Int32) (g17 : AH) => letT (sI g17 75 10 (0 : Int32)) (fun g18 => if y16 = 0 then some (g18.1 75 13, g18) else letT (sI g18 75 2 (g18.1 75 15)) (fun g20 => fX12_proof_l105 fuel0 (0 : Int32) g20))) fuel0 b.1 b.2) := fun g1 hg => by
    have e75 := hg 75 (Or.inl rfl)
    refine ⟨sI (sI (sI g1 75 11 0) 75 12 (nI n)) 75 15 0, ⟨?_, fun i hi => ?_⟩, ?_, ?_, ?_, fun c hc => ?_, fun j h1 h2 h3 => ?_, ?_⟩
    · rw [sI_at, upd_ne _ _ (by decide), sI_at, upd_at]
    · rw [sI_ne _ _ _ (by decide), sI_ne _ _ _ (by decide), sI_ne _ _ _ (by decide), hg 82 (Or.inr rfl)]
      obtain ⟨b, hb, e1, e2⟩ := t4 i (by omega)
      rw [e2, ← e1]
      exact hB i hi
    · rw [sI_at, upd_ne _ _ (by decide), sI_at, upd_ne _ _ (by decide), sI_at, upd_at]; rfl
    · rw [sI_at, upd_at]; rfl
    · rw [sI_at, upd_ne _ _ (by decide), sI_at, upd_ne _ _ (by decide), sI_at, upd_ne _ _ (by decide), e75]; exact H.eM
    · rw [sI_ne _ _ _ hc, sI_ne _ _ _ hc, sI_ne _ _ _ hc]
    · rw [sI_at, upd_ne _ _ h3, sI_at, upd_ne _ _ h2, sI_at, upd_ne _ _ h1]
    · unfold mo_proof fX12_proof
      rw [in_yes c1 c2, if_neg (by decide), e75, t3, if_neg (nI_nlt (by omega) (by omega)), letT_eq, letT_eq, letT_eq]
  cases eL : pLoop B n M 21 0 [] with
  | inl f =>
    obtain ⟨g', e1, pf, f0, f1⟩ := r1 f eL
    have fx := fX g' pf
    have eX := sX (eb.trans e1)
    rw [if_neg (neg_np f1)] at eX
    have h1c : ∀ c, c ≠ 1 → (sI g' 1 1 0).1 c = g'.1 c := fun c hc => sI_ne _ _ _ hc
    obtain ⟨g5, m1, m2, m3, m4, m5, m6, m7⟩ := sM (sI g' 1 1 0) (fun c hc => by
      have hc1 : c ≠ 1 := by omega
      rw [h1c c hc1]
      exact fx c hc1 (by omega))
    obtain ⟨k1, -⟩ := proofM41 (K := fun (y16 : Int32) (g17 : AH) => letT (sI g17 75 10 (0 : Int32)) (fun g18 => if y16 = 0 then some (g18.1 75 13, g18) else letT (sI g18 75 2 (g18.1 75 15)) (fun g20 => fX12_proof_l105 fuel0 (0 : Int32) g20))) t hM.2 21 0 fuel0 [] g5 rfl (by decide) (by have := fuel_big; omega) m1 m2 (Nat.zero_le _) m3 m4 (fun i L z => by cases z)
    obtain ⟨g, a1, a2, a3⟩ := k1 f eL
    rw [letT_eq, if_pos rfl] at a1
    have e13 : (sI g 75 10 0).1 75 13 = -(nI f) := by rw [sI_at, upd_ne _ _ (by decide)]; exact a3
    rw [e13] at a1
    refine ⟨-(nI f), sI g' 1 1 0, sI g 75 10 0, eX, m7.trans a1, I.t0.core (core_t0 (fun c hc => ?_) (fun q hq q1 q2 => ?_) ?_ ?_)⟩
    · obtain ⟨z1, z2, z3, z4⟩ := coreC_p c hc
      rw [sI_ne _ _ _ z2, a2.1 c z2 z4, m5 c z2, h1c c z1]
      exact fx c z1 z3
    · obtain ⟨y1, y2, y3⟩ := coreS_p q hq
      have z1 : q.1 ≠ 1 := fun e => q1 (y1 e)
      obtain ⟨z3, z4⟩ := y2 z1
      by_cases z2 : q.1 = 75
      · obtain ⟨w1, w2, w3, w4, w5⟩ := y3 z2
        have w0 : q.2 ≠ 10 := fun e => q2 (Prod.ext z2 e)
        rw [z2, sI_at, upd_ne _ _ w0, a2.2.1 _ w1 w3 w4 w5, m6 _ w1 w2 w5, h1c 75 (by decide), fx 75 (by decide) (by decide)]
      · rw [sI_ne _ _ _ z2, a2.1 _ z2 z4, m5 _ z2, h1c _ z1, fx _ z1 z3]
    · rw [sI_ne _ _ _ (by decide), a2.1 1 (by decide) (by decide), m5 1 (by decide), sI_at, upd_at]
    · rw [sI_at, upd_at]
  | inr l' =>
    obtain ⟨g', e1, pf, l0, l20, wp, en⟩ := r2 l' eL
    have fx := fX g' pf
    have eX := sX (eb.trans e1)
    rw [if_pos (show (0 : Int32) < nI l'.length from nI_lt (a := 0) l0 (by omega))] at eX
    have h1c : ∀ c, c ≠ 1 → (sI g' 1 1 0).1 c = g'.1 c := fun c hc => sI_ne _ _ _ hc
    obtain ⟨gc, b0, b6, b7, b8, b9, b10, b11, b12, b13, bc⟩ := become_eq (g := sI g' 1 1 0)
    rw [b0, ob] at eX
    rw [h1c 26 (by decide)] at b6
    rw [h1c 27 (by decide)] at b7
    rw [h1c 28 (by decide)] at b8
    rw [h1c 29 (by decide)] at b9
    rw [h1c 30 (by decide)] at b10
    rw [h1c 31 (by decide)] at b11
    rw [h1c 32 (by decide)] at b12
    rw [h1c 33 (by decide)] at b13
    have gcx : ∀ c, c ≠ 1 → c < 6 ∨ 13 < c → c < 26 ∨ 33 < c → gc.1 c = h.1 c := fun c y1 y2 y3 => by rw [bc c y2, h1c c y1]; exact fx c y1 y3
    obtain ⟨g5, m1, m2, m3, m4, m5, m6, m7⟩ := sM gc (fun c hc => gcx c (by omega) (by omega) (by omega))
    obtain ⟨-, k2⟩ := proofM41 (K := fun (y16 : Int32) (g17 : AH) => letT (sI g17 75 10 (0 : Int32)) (fun g18 => if y16 = 0 then some (g18.1 75 13, g18) else letT (sI g18 75 2 (g18.1 75 15)) (fun g20 => fX12_proof_l105 fuel0 (0 : Int32) g20))) t hM.2 21 0 fuel0 [] g5 rfl (by decide) (by have := fuel_big; omega) m1 m2 (Nat.zero_le _) m3 m4 (fun i L z => by cases z)
    obtain ⟨g, a1, a2, a3, a4⟩ := k2 l' eL
    rw [letT_eq, if_neg d10', letT_eq] at a1
    have e15 : (sI g 75 10 0).1 75 15 = nI l'.length := by rw [sI_at, upd_ne _ _ (by decide)]; exact a3
    rw [e15] at a1
    obtain ⟨g2, d0, d1, d2⟩ := proofM105 (N := l'.length) (g := sI (sI g 75 10 0) 75 2 (nI l'.length)) (by rw [sI_at, upd_at]) l20
    rw [d0] at a1
    have k75 : ∀ c, c ≠ 75 → (sI (sI g 75 10 0) 75 2 (nI l'.length)).1 c = g.1 c := fun c hc => by rw [sI_ne _ _ _ hc, sI_ne _ _ _ hc]
    rw [k75 83 (by decide), k75 84 (by decide), k75 85 (by decide), k75 86 (by decide)] at d1
    -- the cells behind it all
    have G : ∀ c, c ≠ 1 → c ≠ 75 → c < 6 ∨ 13 < c → c < 26 ∨ 33 < c → c < 83 ∨ 86 < c → c < 77 ∨ 80 < c → g2.1 c = h.1 c := fun c y1 y2 y3 y4 y5 y6 => by rw [d2 c y6, k75 c y2, a2.1 c y2 y5, m5 c y2, gcx c y1 y3 y4]
    have Gc : ∀ c, 6 ≤ c → c ≤ 13 → g2.1 c = gc.1 c := fun c y1 y2 => by rw [d2 c (by omega), k75 c (by omega), a2.1 c (by omega) (by omega), m5 c (by omega)]
    have G75 : ∀ j, j ≠ 10 → j ≠ 2 → j ≠ 11 → j ≠ 12 → j ≠ 13 → j ≠ 14 → j ≠ 15 → g2.1 75 j = h.1 75 j := fun j y1 y2 y3 y4 y5 y6 y7 => by
      rw [d2 75 (by omega), sI_at, upd_ne _ _ y2, sI_at, upd_ne _ _ y1, a2.2.1 j y3 y5 y6 y7, m6 j y3 y4 y7, gcx 75 (by decide) (by decide) (by decide)]
    have G752 : g2.1 75 2 = nI l'.length := by rw [d2 75 (by omega), sI_at, upd_at]
    have G7510 : g2.1 75 10 = nI 0 := by rw [d2 75 (by omega), sI_at, upd_ne _ _ (by decide), sI_at, upd_at]; rfl
    have G11 : g2.1 1 1 = nI 0 := by rw [d2 1 (by omega), k75 1 (by decide), a2.1 1 (by decide) (by decide), m5 1 (by decide), bc 1 (by omega), sI_at, upd_at]; rfl
    refine ⟨nI l'.length, gc, g2, eX, m7.trans a1, ⟨l'.length, M, x, ?_⟩, ?_, ⟨0, by omega, G11, G7510, ?_⟩, nz, ?_⟩
    · obtain ⟨a1', a2', a3', a4', a5', a6', ⟨w1, w2', w3, w4, w5, w6⟩, a8, a9, a10, a11, a12, a13, a14, a15⟩ := H
      obtain ⟨p1, p2, p3, p4⟩ := wp
      have W0 : Wr l'.length M (h.1 3 0) (h.1 4) (g'.1 28) (g'.1 29) (g'.1 30) := ⟨l20, w2', w3, w4, w5, p2⟩
      unfold ScN
      rw [Gc 6 (by omega) (by omega), G 3 (by decide) (by decide) (by decide) (by decide) (by decide) (by decide), G 4 (by decide) (by decide) (by decide) (by decide) (by decide) (by decide), Gc 8 (by omega) (by omega), Gc 9 (by omega) (by omega), Gc 10 (by omega) (by omega), Gc 7 (by omega) (by omega), Gc 11 (by omega) (by omega), Gc 12 (by omega) (by omega), Gc 13 (by omega) (by omega), G 5 (by decide) (by decide) (by decide) (by decide) (by decide) (by decide), G752, G75 0 (by decide) (by decide) (by decide) (by decide) (by decide) (by decide) (by decide), G75 1 (by decide) (by decide) (by decide) (by decide) (by decide) (by decide) (by decide), G 76 (by decide) (by decide) (by decide) (by decide) (by decide) (by decide), G 81 (by decide) (by decide) (by decide) (by decide) (by decide) (by decide)]
      have row : ∀ i, i < l'.length → gc.1 7 i = g2.1 77 i ∧ gc.1 8 i = g2.1 78 i ∧ gc.1 9 i = g2.1 79 i ∧ gc.1 10 i = g2.1 80 i := fun i hi => by
        obtain ⟨L, hLi⟩ : ∃ L, l'[i]? = some L := ⟨l'[i], List.getElem?_eq_getElem hi⟩
        obtain ⟨u1, u2, u3, u4⟩ := en i L hLi
        obtain ⟨v1, v2, v3, v4⟩ := a4 i L hLi
        obtain ⟨y1, y2, y3, y4⟩ := d1 i hi
        rw [b7 i (by omega), b8 i (by omega), b9 i (by omega), b10 i (by omega), u1, u2, u3, u4, y1, y2, y3, y4, v1, v2, v3, v4]
        exact ⟨rfl, rfl, rfl, rfl⟩
      refine ⟨by rw [b6]; exact p1, rfl, a3', a4', a5', a6', W0.eq eqOn.rf b8 b9 b10, a8, fun i hi => (row i hi).2.1, fun i hi => (row i hi).2.2.1, fun i hi => (row i hi).2.2.2, fun i hi => (row i hi).1, fun i hi => ?_, Der.eq W0 p4 b8 b9 b10 b11 b12 b13, a15⟩
      rw [b7 i (by omega)]
      exact p3 i hi
    · unfold Kp
      rw [G 0 (by decide) (by decide) (by decide) (by decide) (by decide) (by decide), G75 55 (by decide) (by decide) (by decide) (by decide) (by decide) (by decide) (by decide)]
      rcases hkp with hkp | ⟨y1, y2, N', M', x', y3⟩
      · exact Or.inl hkp
      · refine Or.inr ⟨y1, y2, N', M', x', ?_⟩
        unfold ScK
        rw [G 17 (by decide) (by decide) (by decide) (by decide) (by decide) (by decide), G 14 (by decide) (by decide) (by decide) (by decide) (by decide) (by decide), G 15 (by decide) (by decide) (by decide) (by decide) (by decide) (by decide), G 19 (by decide) (by decide) (by decide) (by decide) (by decide) (by decide), G 20 (by decide) (by decide) (by decide) (by decide) (by decide) (by decide), G 21 (by decide) (by decide) (by decide) (by decide) (by decide) (by decide), G 18 (by decide) (by decide) (by decide) (by decide) (by decide) (by decide), G 22 (by decide) (by decide) (by decide) (by decide) (by decide) (by decide), G 23 (by decide) (by decide) (by decide) (by decide) (by decide) (by decide), G 24 (by decide) (by decide) (by decide) (by decide) (by decide) (by decide), G 16 (by decide) (by decide) (by decide) (by decide) (by decide) (by decide), G75 57 (by decide) (by decide) (by decide) (by decide) (by decide) (by decide) (by decide), G75 56 (by decide) (by decide) (by decide) (by decide) (by decide) (by decide) (by decide), G75 58 (by decide) (by decide) (by decide) (by decide) (by decide) (by decide) (by decide), G 111 (by decide) (by decide) (by decide) (by decide) (by decide) (by decide), G 113 (by decide) (by decide) (by decide) (by decide) (by decide) (by decide), G 114 (by decide) (by decide) (by decide) (by decide) (by decide) (by decide), G 115 (by decide) (by decide) (by decide) (by decide) (by decide) (by decide), G 112 (by decide) (by decide) (by decide) (by decide) (by decide) (by decide), G 116 (by decide) (by decide) (by decide) (by decide) (by decide) (by decide)]
        exact y3
    · rw [G 2 (by decide) (by decide) (by decide) (by decide) (by decide) (by decide), G 82 (by decide) (by decide) (by decide) (by decide) (by decide) (by decide)]
      exact t4
    · unfold Lz
      rw [G 42 (by decide) (by decide) (by decide) (by decide) (by decide) (by decide), G75 28 (by decide) (by decide) (by decide) (by decide) (by decide) (by decide) (by decide), G 43 (by decide) (by decide) (by decide) (by decide) (by decide) (by decide), G 44 (by decide) (by decide) (by decide) (by decide) (by decide) (by decide), G 45 (by decide) (by decide) (by decide) (by decide) (by decide) (by decide), G 46 (by decide) (by decide) (by decide) (by decide) (by decide) (by decide), G 97 (by decide) (by decide) (by decide) (by decide) (by decide) (by decide), G 98 (by decide) (by decide) (by decide) (by decide) (by decide) (by decide), G 99 (by decide) (by decide) (by decide) (by decide) (by decide) (by decide), G 100 (by decide) (by decide) (by decide) (by decide) (by decide) (by decide), G 101 (by decide) (by decide) (by decide) (by decide) (by decide) (by decide), G 38 (by decide) (by decide) (by decide) (by decide) (by decide) (by decide)]
      exact hL
