/-! ===== blind ===== -/
/-- a slip at i by v does not show at the last line -/
def blP (m : Rw → Nat → Int32) (N i : Nat) (T : Rw) (v : Nat) : Bool := !decide (nI v = T i) && decide (slp m N i (nI v) T (N - 1) = T (N - 1))
theorem slp_cong {m m' : Rw → Nat → Int32} {N i : Nat} {v : Int32} {r r' : Rw} (hm : ∀ i, i < N → ∀ r r', eqOn i r r' → m r i = m' r' i) (hi : i < N) (hr : eqOn N r r') : eqOn N (slp m N i v r) (slp m' N i v r') := by
  have e := wk_cong (M := m) (M' := m') (k := i + 1) (N := N) (r := upd r i v) (r' := upd r' i v) hm (fun j hj => by
    by_cases c : j = i
    · rw [c, upd_at, upd_at]
    · rw [upd_ne _ _ c, upd_ne _ _ c]; exact hr j (by omega)) (n := N - (i + 1)) (by omega)
  have e2 : i + 1 + (N - (i + 1)) = N := by omega
  rwa [e2] at e
theorem blindX {N M x i : Nat} {h : AH} (H : ScN N M x h) (hi : i < N) : ∃ h1, xo_blind (nI i) h = some (nI (ct (blP (mX h) N i (wk (mX h) 0 N (h.1 49))) M), h1) ∧ Core h h1 := by
  have hN := H.N
  have hM := H.M97
  unfold xo_blind fX11_blind
  rw [holds_in H.sX hN hi, if_neg (by decide), truth_eq H.WX off49 (by decide), ob]
  generalize hT : wk (mX h) 0 N (h.1 49) = T
  have el : fX6_last (sR h 49 T) = nI (N - 1) := by
    unfold fX6_last
    rw [show (sR h 49 T).1 6 0 = nI N from H.sX, nI_sub1 (by omega)]
  rw [el]
  obtain ⟨s, hs, c, hs2, hs3⟩ := for_ex (F := fun m xx (s : Int32 × AH) => fX11_blind_l44 (nI i) (nI (N - 1)) m s.1 xx s.2) (fun s => some (s.1, s.2)) M (by omega) (fun k s => Core h s.2 ∧ s.2.1 49 = T ∧ s.1 = nI (ct (blP (mX h) N i T) k)) (fun m k s hk hI => by
      obtain ⟨c, e49, es⟩ := hI
      have Hg := H.core c
      show ∃ s', fX11_blind_l44b (fX11_blind_l44 (nI i) (nI (N - 1)) m) (nI i) (nI (N - 1)) s.1 (nI k) s.2 = _ ∧ _
      unfold fX11_blind_l44b
      rw [Hg.eX, if_pos (nI_lt hk (by omega)), at_in (show i < aln 49 by show i < 20; omega), e49, nI_1]
      by_cases e : nI k = T i
      · rw [if_pos e]
        refine ⟨(s.1, s.2), rfl, c, e49, ?_⟩
        rw [ct_succ, es]
        have : blP (mX h) N i T k = false := by unfold blP; simp [e]
        rw [this]
        rfl
      · rw [if_neg e]
        obtain ⟨r, e1, q1⟩ := copyRow_ex (a := 49) (b := 50) (n := 20) (h := s.2) (by decide) rfl rfl
        rw [e49] at q1
        have c2 : Core h (sR s.2 50 r) := c.tr (Core.sR rfl)
        rw [e1, ob, slipIn_eq (H.core c2).WX off50 (by decide) hi, ob, sR_at, mX_core c2, sR_sR]
        have c3 : Core h (sR s.2 50 (slp (mX h) N i (nI k) r)) := c.tr (Core.sR rfl)
        have e49' : (sR s.2 50 (slp (mX h) N i (nI k) r)).1 49 = T := by rw [sR_ne _ _ (by decide), e49]
        rw [at_in (show N - 1 < aln 50 by show _ < 20; omega), at_in (show N - 1 < aln 49 by show _ < 20; omega), sR_at, e49']
        have esl : slp (mX h) N i (nI k) r (N - 1) = slp (mX h) N i (nI k) T (N - 1) := slp_cong (mX_ahead H.WX) hi (q1.le hN) (N - 1) (by omega)
        rw [esl]
        dsimp only [letT]
        by_cases e2 : slp (mX h) N i (nI k) T (N - 1) = T (N - 1)
        · rw [if_pos e2]
          refine ⟨(s.1 + 1, sR s.2 50 (slp (mX h) N i (nI k) r)), rfl, c3, e49', ?_⟩
          have : blP (mX h) N i T k = true := by unfold blP; simp [e, e2]
          rw [ct_succ, this]
          show s.1 + 1 = _
          rw [es]
          exact nI_1 _
        · rw [if_neg e2]
          refine ⟨(s.1 + 0, sR s.2 50 (slp (mX h) N i (nI k) r)), rfl, c3, e49', ?_⟩
          have : blP (mX h) N i T k = false := by unfold blP; simp [e2]
          rw [ct_succ, this]
          show s.1 + 0 = _
          rw [es, Int32.add_zero]
          rfl) (fun m s hI => by
      show fX11_blind_l44b (fX11_blind_l44 (nI i) (nI (N - 1)) m) (nI i) (nI (N - 1)) s.1 (nI M) s.2 = _
      unfold fX11_blind_l44b
      rw [(H.core hI.1).eX, if_neg (nI_nlt (Nat.le_refl _) (by omega))]) fuel0 0 (0, sR h 49 T) (by omega) (by have := fuel_big; omega) ⟨Core.sR rfl, sR_at _ _ _, rfl⟩
  refine ⟨s.2, ?_, c⟩
  refine hs.trans ?_
  rw [hs3]
theorem blindM {N M i : Nat} {h : AH} (w : WM N M h) (hi : i < N) : ∃ h1, mo_blind (nI i) h = some (nI (ct (blP (mM h) N i (wk (mM h) 0 N (h.1 87))) M), h1) ∧ Core h h1 := by
  have hN := w.N
  obtain ⟨-, hm, m1, m2, -⟩ := w.2
  unfold mo_blind fX12_blind
  rw [isLine_in w.1 hN hi, if_neg (by decide), laysTruth_eq w, ob]
  generalize hT : wk (mM h) 0 N (h.1 87) = T
  have wof : ∀ g : AH, Core h g → WM N M g := fun g c => by
    unfold WM
    rw [c.P 75 2 (by decide), c.P 75 0 (by decide), c.C 76 (by decide), c.C 78 (by decide), c.C 79 (by decide), c.C 80 (by decide)]
    exact w
  obtain ⟨s, hs, c, hs2, hs3⟩ := for_ex (F := fun m xx (s : Int32 × AH) => fX12_blind_l18 (nI i) m s.1 xx s.2) (fun s => some (s.1, s.2)) M (by omega) (fun k s => Core h s.2 ∧ s.2.1 87 = T ∧ s.1 = nI (ct (blP (mM h) N i T) k)) (fun m k s hk hI => by
      obtain ⟨c, e87, es⟩ := hI
      have wg := wof _ c
      show ∃ s', fX12_blind_l18b (fX12_blind_l18 (nI i) m) (nI i) s.1 (nI k) s.2 = _ ∧ _
      unfold fX12_blind_l18b
      obtain ⟨r, er, qr⟩ := slips_eq (a := 87) (b := 88) (v := nI k) wg (by unfold offM; omega) (by decide) (by decide) (by decide) hi
      rw [mM_core c, e87] at qr
      have g20 := gd (show i < 20 by omega) (by decide)
      have hsz : (sR s.2 88 r).1 75 2 = nI N := wg.1
      have e87' : (sR s.2 88 r).1 87 = T := by rw [sR_ne _ _ (by decide), e87]
      have gl := gd (show N - 1 < 20 by omega) (by decide)
      rw [c.P 75 0 (by decide), hm, if_pos (nI_lt hk (by omega)), er, ob, if_neg g20, hsz, nI_sub1 (by omega), if_neg gl, if_neg gl, nI_clamp (by omega), nI_clamp (by omega), sR_at, e87', qr (N - 1) (by omega), nI_1]
      dsimp only [letT]
      have c3 : Core h (sR s.2 88 r) := c.tr (Core.sR rfl)
      by_cases e : nI k = T i
      · rw [if_pos e]
        refine ⟨(s.1 + 0, sR s.2 88 r), rfl, c3, e87', ?_⟩
        have : blP (mM h) N i T k = false := by unfold blP; simp [e]
        rw [ct_succ, this]
        show s.1 + 0 = _
        rw [es, Int32.add_zero]
        rfl
      · rw [if_neg e]
        by_cases e2 : slp (mM h) N i (nI k) T (N - 1) = T (N - 1)
        · rw [if_pos e2]
          refine ⟨(s.1 + 1, sR s.2 88 r), rfl, c3, e87', ?_⟩
          have : blP (mM h) N i T k = true := by unfold blP; simp [e, e2]
          rw [ct_succ, this]
          show s.1 + 1 = _
          rw [es]
          exact nI_1 _
        · rw [if_neg e2]
          refine ⟨(s.1 + 0, sR s.2 88 r), rfl, c3, e87', ?_⟩
          have : blP (mM h) N i T k = false := by unfold blP; simp [e2]
          rw [ct_succ, this]
          show s.1 + 0 = _
          rw [es, Int32.add_zero]
          rfl) (fun m s hI => by
      show fX12_blind_l18b (fX12_blind_l18 (nI i) m) (nI i) s.1 (nI M) s.2 = _
      unfold fX12_blind_l18b
      rw [hI.1.P 75 0 (by decide), hm, if_neg (nI_nlt (Nat.le_refl _) (by omega))]) fuel0 0 (0, sR h 87 T) (by omega) (by have := fuel_big; omega) ⟨Core.sR rfl, sR_at _ _ _, rfl⟩
  refine ⟨s.2, ?_, c⟩
  refine hs.trans ?_
  rw [hs3]
theorem st_blind (p : Int32) {h : AH} (I : Inv h) : St (xo_blind p) (mo_blind p) h := by
  obtain ⟨⟨N, M, x, H⟩, -⟩ := id I
  have hN := H.N
  rcases pl_cases (N := N) (by omega) p with ⟨i, hi, rfl⟩ | hp
  · obtain ⟨h1, eX, c1⟩ := blindX H hi
    obtain ⟨h2, eM, c2⟩ := blindM (H.core c1).WM hi
    rw [mM_core c1] at eM
    have e : ct (blP (mM h) N i (wk (mM h) 0 N (h1.1 87))) M = ct (blP (mX h) N i (wk (mX h) 0 N (h.1 49))) M := ct_cong (fun v hv => by
      have hT := H.tr (h.1 49) (h1.1 87)
      unfold blP
      rw [← hT i hi, ← hT (N - 1) (by omega), ← (H.slpE hi hT) (N - 1) (by omega)])
    rw [e] at eM
    exact St.ro I eX c1 eM c2
  · refine St.ro (r := -1) I ?_ .rf ?_ .rf
    · unfold xo_blind fX11_blind
      rw [holds_out H.sX hp, if_pos rfl]
    · unfold mo_blind fX12_blind
      rw [isLine_out H.sM hp, if_pos rfl]
