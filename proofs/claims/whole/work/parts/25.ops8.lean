/-! ===== corrects, blind ===== -/
theorem off7 : offX 7 := by unfold offX; omega
theorem letT_case {α β : Type} {f : α} {k : α → β} {r : β} (h : ∀ J, J = f → k J = r) : letT f k = r := h f rfl
theorem sR_sI_comm {h : AH} {a b j : Nat} {v : Int32} {r : Rw} (hab : a ≠ b) : sR (sI h a j v) b r = sI (sR h b r) a j v := by
  rw [sI_sR, sI_sR, sR_ne _ _ hab]
  refine Prod.ext ?_ rfl
  funext c
  show (if c = b then _ else if c = a then _ else _) = (if c = a then _ else if c = b then _ else _)
  by_cases e : c = b
  · rw [if_pos e, if_neg (fun q => hab (q.symm.trans e)), if_pos e]
  · rw [if_neg e, if_neg e]
theorem works_eq {N M i : Nat} {v : Int32} {h : AH} (w : WM N M h) (hi : i < N) : ∃ r s, fX12_works (nI i) v h = some (sR (sR h 88 r) 77 s) ∧ eqOn N s (slp (mM h) N i v (h.1 77)) := by
  have hN := w.N
  obtain ⟨r, e1, q1⟩ := slips_eq (a := 77) (b := 88) (v := v) w (by unfold offM; omega) (by decide) (by decide) (by decide) hi
  unfold fX12_works
  rw [e1, ob]
  let stp : Nat → Rw → Rw := fun k t => upd t k (r k)
  have hs : ∀ t, (sR (sR h 88 r) 77 t).1 75 2 = nI N := fun t => w.1
  have key := for_up0 (F := fun m x t => fX12_works_l16 m x (sR (sR h 88 r) 77 t)) stp (fun t => some (sR (sR h 88 r) 77 t)) N (by omega) (fun m k t hk => by
      show fX12_works_l16b (fX12_works_l16 m) (nI k) (sR (sR h 88 r) 77 t) = _
      unfold fX12_works_l16b
      have g := gd (show k < 20 by omega) (by decide)
      have e88 : (sR (sR h 88 r) 77 t).1 88 = r := by rw [sR_ne _ _ (by decide), sR_at]
      rw [hs, if_pos (nI_lt hk (by omega)), if_neg g, if_neg g, nI_clamp (by omega), e88, sI_R, nI_1]
      rfl) (fun m t => by
      show fX12_works_l16b (fX12_works_l16 m) (nI N) (sR (sR h 88 r) 77 t) = _
      unfold fX12_works_l16b
      rw [hs, if_neg (nI_nlt (Nat.le_refl _) (by omega))]) fuel0 0 ((sR h 88 r).1 77) (by omega) (by have := fuel_big; omega)
  rw [Nat.sub_zero, sR_self] at key
  refine ⟨r, _, key, ?_⟩
  have inv : ∀ k, eqOn k (itf stp 0 k ((sR h 88 r).1 77)) r := by
    intro k
    induction k with
    | zero => intro j hj; omega
    | succ k ih =>
      intro j hj
      rw [itf_last, Nat.zero_add]
      show upd (itf stp 0 k ((sR h 88 r).1 77)) k (r k) j = _
      by_cases e : j = k
      · rw [e, upd_at]
      · rw [upd_ne _ _ e]; exact ih j (by omega)
  exact (inv N).tr q1
/-- a point more or less, within its bounds -/
def ptw (v : Int32) : Int32 := if v < -99 then -99 else if 99 < v then 99 else v
theorem within_pt (v : Int32) (h : AH) : fX11_within v (-99) 99 h = ptw v := by
  unfold fX11_within jmax jmin ptw
  by_cases c1 : v < -99
  · have c2 : ¬ (99 : Int32) < v := fun q => absurd (fa_trans q (fa_of_lt c1).1) (by decide)
    have c3 : ¬ -99 < v := (fa_of_lt c1).2.2.1
    by_cases c4 : v < 99
    · simp [c1, c2, c3, c4]
    · exact absurd (fa_of_nlt c4) (fun q => by
        have := fa_trans (fa_trans c1 (show (-99 : Int32) ≤ 99 by decide)) q
        exact absurd this (by rw [fa_lt]; omega))
  · by_cases c2 : (99 : Int32) < v
    · have c4 : ¬ v < 99 := (fa_of_lt c2).2.2.1
      simp [c1, c2, c4]
      try decide
    · by_cases c4 : v < 99
      · by_cases c5 : -99 < v
        · simp [c1, c2, c4, c5]
        · have : v = -99 := by
            rcases fa_three v (-99) with q | q | q
            · exact absurd q c1
            · exact q
            · exact absurd q c5
          subst this
          decide
      · have : v = 99 := by
          rcases fa_three v 99 with q | q | q
          · exact absurd q c4
          · exact q
          · exact absurd q c2
        subst this
        decide
theorem ptw_in (v : Int32) : -99 ≤ ptw v ∧ ptw v ≤ 99 := by
  unfold ptw
  by_cases c1 : v < -99
  · rw [if_pos c1]; decide
  · rw [if_neg c1]
    by_cases c2 : (99 : Int32) < v
    · rw [if_pos c2]; decide
    · rw [if_neg c2]; exact ⟨fa_of_nlt c1, fa_of_nlt c2⟩
/-- the points of one pupil changed on both sides -/
theorem Inv.point {N M x p : Nat} {h : AH} (I : Inv h) (H : ScN N M x h) (hp : p < 8) {v : Int32} (hv : -99 ≤ v ∧ v ≤ 99) : Inv (sI (sI h 5 p v) 81 p v) := by
  obtain ⟨-, hk, hT, hL⟩ := I
  obtain ⟨a1, a2, a3, a4, a5, a6, a7, a8, a9, a10, a11, a12, a13, a14, a15⟩ := H
  refine ⟨⟨N, M, x, a1, a2, a3, a4, a5, a6, a7, a8, a9, a10, a11, a12, a13, a14, fun q hq => ?_⟩, hk, hT, hL⟩
  show upd (h.1 5) p v q = upd (h.1 81) p v q ∧ -99 ≤ upd (h.1 5) p v q ∧ upd (h.1 5) p v q ≤ 99
  by_cases e : q = p
  · rw [e, upd_at, upd_at]; exact ⟨rfl, hv⟩
  · rw [upd_ne _ _ e, upd_ne _ _ e]; exact a15 q hq
theorem correctsX {N M x p i u : Nat} {h : AH} (H : ScN N M x h) (hp : p < 8) (hi : i < N) (hu : u < M) : xo_corrects (nI p) (nI i) (nI u) h = (if wrX h i && decide (nI u = mX h (h.1 7) i) then some (ptw (h.1 5 p + 1), sI (sR h 7 (slp (mX h) N i (nI u) (h.1 7))) 5 p (ptw (h.1 5 p + 1))) else some (ptw (h.1 5 p + -1), sI h 5 p (ptw (h.1 5 p + -1)))) := by
  have hN := H.N
  have hM := H.M97
  have p5 : p < aln 5 := hp
  unfold xo_corrects fX11_corrects
  have hpu : fX11_isPupil (nI p) h = 1 := by
    unfold fX11_isPupil
    rw [if_neg (nI_pos (by omega)), if_pos (show nI p < 8 from nI_lt (b := 8) hp (by decide))]
  rw [hpu, holds_in H.sX hN hi, isClaimX_in H.eX hM.2 hu, if_neg (by decide), if_neg (by decide), if_neg (by decide)]
  dsimp only [letT]
  rw [isWrongX_eq H.WX hi, made_eq H.WX hi (by decide), slipIn_eq H.WX off7 (by decide) hi]
  simp only [ob]
  have fin : ∀ (g : AH) (d : Int32), (fX11_at 5 (nI p) (fX11_put 5 (nI p) (fX11_within (fX11_at 5 (nI p) g + d) (-99) 99 g) g), fX11_put 5 (nI p) (fX11_within (fX11_at 5 (nI p) g + d) (-99) 99 g) g) = (ptw (g.1 5 p + d), sI g 5 p (ptw (g.1 5 p + d))) := by
    intro g d
    rw [within_pt, put_in p5, at_in p5, at_in p5, sI_at, upd_at]
  cases hw : wrX h i with
  | false =>
    simp only [Bool.false_and, if_true, if_false, reduceCtorEq]
    exact congrArg some (fin h (-1))
  | true =>
    by_cases e : nI u = mX h (h.1 7) i
    · simp only [e, d10, decide_true, Bool.and_self, if_true, if_false]
      have := fin (sR h 7 (slp (mX h) N i (nI u) (h.1 7))) 1
      rw [e] at this
      exact congrArg some this
    · simp only [e, d10, decide_false, Bool.and_false, if_true, if_false, reduceCtorEq]
      exact congrArg some (fin h (-1))
theorem correctsM' {N M p i u : Nat} {h : AH} (w : WM N M h) (heM : h.1 75 0 = nI M) (hp : p < 8) (hi : i < N) (hu : u < M) (hM : 2 ≤ M ∧ M ≤ 97) : ∃ r s, eqOn N s (slp (mM h) N i (nI u) (h.1 77)) ∧ mo_corrects (nI p) (nI i) (nI u) h = (if wrM h i && decide (nI u = mM h (h.1 77) i) then some (ptw (h.1 81 p + 1), sI (sR (sR h 88 r) 77 s) 81 p (ptw (h.1 81 p + 1))) else some (ptw (h.1 81 p + -1), sI h 81 p (ptw (h.1 81 p + -1)))) := by
  have hN := w.N
  obtain ⟨r, s, ew, qw⟩ := works_eq (v := nI u) w hi
  refine ⟨r, s, qw, ?_⟩
  unfold mo_corrects fX12_corrects
  have hpu : fX12_isPupil (nI p) h = 1 := by
    unfold fX12_isPupil
    rw [if_neg (nI_pos (by omega)), if_pos (show nI p < 8 from nI_lt (b := 8) hp (by decide))]
  have g8 := gd hp (by decide)
  rw [hpu, isLine_in w.1 hN hi, isClaimM_in heM hM.2 hu, if_neg (by decide), if_neg (by decide), if_neg (by decide), isWrongM_eq w hi, ob, makes_eq w hi (by decide), ew]
  have fin : ∀ (g : AH) (d : Int32), (if nI p < 0 ∨ 8 ≤ (nI p).toNatClampNeg then none else letT (fun w11 => letT ((g.1 81 (nI p).toNatClampNeg) + w11) (fun v13 => if v13 < (-99 : Int32) then (if nI p < 0 ∨ 8 ≤ (nI p).toNatClampNeg then none else letT (sI g 81 (nI p).toNatClampNeg (-99 : Int32)) (fun g23 => if nI p < 0 ∨ 8 ≤ (nI p).toNatClampNeg then none else some (g23.1 81 (nI p).toNatClampNeg, g23))) else (if (99 : Int32) < v13 then (if nI p < 0 ∨ 8 ≤ (nI p).toNatClampNeg then none else letT (sI g 81 (nI p).toNatClampNeg (99 : Int32)) (fun g20 => if nI p < 0 ∨ 8 ≤ (nI p).toNatClampNeg then none else some (g20.1 81 (nI p).toNatClampNeg, g20))) else (if nI p < 0 ∨ 8 ≤ (nI p).toNatClampNeg then none else letT (sI g 81 (nI p).toNatClampNeg v13) (fun g17 => if nI p < 0 ∨ 8 ≤ (nI p).toNatClampNeg then none else some (g17.1 81 (nI p).toNatClampNeg, g17)))))) (fun J12 => J12 d)) = some (ptw (g.1 81 p + d), sI g 81 p (ptw (g.1 81 p + d))) := by
    intro g d
    dsimp only [letT]
    simp only [g8, if_false]
    rw [nI_clamp (by omega)]
    unfold ptw
    by_cases c1 : g.1 81 p + d < -99
    · rw [if_pos c1, if_pos c1, sI_at, upd_at]
    · rw [if_neg c1, if_neg c1]
      by_cases c2 : (99 : Int32) < g.1 81 p + d
      · rw [if_pos c2, if_pos c2, sI_at, upd_at]
      · rw [if_neg c2, if_neg c2, sI_at, upd_at]
  refine letT_case (fun J7 hJ7 => letT_case (fun J29 hJ29 => ?_))
  have h0 : J7 0 = some (ptw (h.1 81 p + -1), sI h 81 p (ptw (h.1 81 p + -1))) := by
    rw [hJ7]
    refine letT_case (fun J9 hJ9 => ?_)
    rw [if_pos rfl, hJ9]
    exact fin h (-1)
  have h1 : J7 1 = some (ptw (h.1 81 p + 1), sI (sR (sR h 88 r) 77 s) 81 p (ptw (h.1 81 p + 1))) := by
    rw [hJ7]
    refine letT_case (fun J9 hJ9 => ?_)
    rw [if_neg (by decide), ob, hJ9]
    exact fin (sR (sR h 88 r) 77 s) 1
  rw [hJ29, h0, ob, h1]
  cases hw : wrM h i with
  | false => rfl
  | true =>
    rw [if_neg (by decide)]
    by_cases e : nI u = mM h (h.1 77) i
    · rw [if_pos e, if_pos (by simp [e])]
    · rw [if_neg e, if_neg (by simp [e])]
theorem st_corrects (p q v : Int32) {h : AH} (I : Inv h) : St (xo_corrects p q v) (mo_corrects p q v) h := by
  obtain ⟨⟨N, M, x, H⟩, -⟩ := id I
  have hN := H.N
  have hM := H.M97
  rcases pl_cases (N := 8) (by decide) p with ⟨j, hj, rfl⟩ | hp
  · have pX : fX11_isPupil (nI j) h = 1 := by
      unfold fX11_isPupil
      rw [if_neg (nI_pos (by omega)), if_pos (show nI j < 8 from nI_lt (b := 8) hj (by decide))]
    have pM : fX12_isPupil (nI j) h = 1 := pX
    rcases pl_cases (N := N) (by omega) q with ⟨i, hi, rfl⟩ | hq
    · rcases pl_cases (N := M) (by omega) v with ⟨u, hu, rfl⟩ | hv
      · have eX := correctsX H hj hi hu
        have ept := (H.2.2.2.2.2.2.2.2.2.2.2.2.2.2 j hj).1
        by_cases c : (wrX h i && decide (nI u = mX h (h.1 7) i)) = true
        · rw [if_pos c] at eX
          -- the class has slipped; the model's school is as it was
          obtain ⟨C, eC⟩ : ∃ C, C = slp (mX h) N i (nI u) (h.1 7) := ⟨_, rfl⟩
          rw [← eC] at eX
          let g : AH := sI (sR h 7 C) 5 j (ptw (h.1 5 j + 1))
          have wM : WM N M g := H.WM
          have cM : (wrM g i && decide (nI u = mM g (g.1 77) i)) = true := by
            have e1 : wrM g i = wrM h i := rfl
            have e2 : mM g (g.1 77) i = mM h (h.1 77) i := rfl
            rw [e1, e2, ← H.wr i hi, ← H.same hi (H.C.le (by omega))]
            exact c
          obtain ⟨r, s, qs, eM⟩ := correctsM' wM H.eM hj hi hu hM
          rw [if_pos cM] at eM
          have e81 : g.1 81 j = h.1 5 j := ept.symm
          rw [e81] at eM
          refine ⟨_, _, _, eX, eM, ?_⟩
          have hCs : eqOn N C s := by
            rw [eC]
            exact (H.slpE hi H.C).tr qs.sy
          have hcl : Cl N M C := by rw [eC]; exact slp_cl H.WX.2 hi H.Cl ⟨u, hu, rfl⟩
          obtain ⟨I2, H2⟩ := I.claims H hCs hcl
          have I3 := I2.point H2 hj (ptw_in (h.1 5 j + 1))
          refine I3.core ?_
          have k1 : Core (sI (sR (sR h 7 C) 77 s) 5 j (ptw (h.1 5 j + 1))) (sI (sR (sR (sR h 7 C) 88 r) 77 s) 5 j (ptw (h.1 5 j + 1))) := coreCongI (coreCong (Core.sR rfl)) (Or.inl rfl)
          have k2 := coreCongI (a := 81) (j := j) (v := ptw (h.1 5 j + 1)) k1 (Or.inl rfl)
          have eg : sR (sR g 88 r) 77 s = sI (sR (sR (sR h 7 C) 88 r) 77 s) 5 j (ptw (h.1 5 j + 1)) := by
            show sR (sR (sI (sR h 7 C) 5 j (ptw (h.1 5 j + 1))) 88 r) 77 s = _
            rw [sR_sI_comm (by decide), sR_sI_comm (by decide)]
          rw [eg]
          exact k2
        · rw [if_neg c] at eX
          let g : AH := sI h 5 j (ptw (h.1 5 j + -1))
          have wM : WM N M g := H.WM
          have cM : ¬ (wrM g i && decide (nI u = mM g (g.1 77) i)) = true := by
            have e1 : wrM g i = wrM h i := rfl
            have e2 : mM g (g.1 77) i = mM h (h.1 77) i := rfl
            rw [e1, e2, ← H.wr i hi, ← H.same hi (H.C.le (by omega))]
            exact c
          obtain ⟨r, s, qs, eM⟩ := correctsM' wM H.eM hj hi hu hM
          rw [if_neg cM] at eM
          have e81 : g.1 81 j = h.1 5 j := ept.symm
          rw [e81] at eM
          exact ⟨_, _, _, eX, eM, I.point H hj (ptw_in _)⟩
      · refine St.ro (r := -1000) I ?_ .rf ?_ .rf
        · unfold xo_corrects fX11_corrects
          rw [pX, holds_in H.sX hN hi, isClaimX_out H.eX hv, if_neg (by decide), if_neg (by decide), if_pos rfl]
        · unfold mo_corrects fX12_corrects
          rw [pM, isLine_in H.sM hN hi, isClaimM_out H.eM hv, if_neg (by decide), if_neg (by decide), if_pos rfl]
    · refine St.ro (r := -1000) I ?_ .rf ?_ .rf
      · unfold xo_corrects fX11_corrects
        rw [pX, holds_out H.sX hq, if_neg (by decide), if_pos rfl]
      · unfold mo_corrects fX12_corrects
        rw [pM, isLine_out H.sM hq, if_neg (by decide), if_pos rfl]
  · have pX : fX11_isPupil p h = 0 := by
      unfold fX11_isPupil
      rcases hp with hp | ⟨h1, h2⟩
      · rw [if_pos hp]
      · rw [if_neg h1, if_neg (show ¬ p < 8 from h2)]
    have pM : fX12_isPupil p h = 0 := pX
    refine St.ro (r := -1000) I ?_ .rf ?_ .rf
    · unfold xo_corrects fX11_corrects
      rw [pX, if_pos rfl]
    · unfold mo_corrects fX12_corrects
      rw [pM, if_pos rfl]
