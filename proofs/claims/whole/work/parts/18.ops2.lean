/-- places below n where two rows differ -/
def df (r s : Rw) (i : Nat) : Bool := !decide (r i = s i)
theorem differing_eq {a b n : Nat} {h : AH} (hn : n ≤ 20) (ha : 20 ≤ aln a) (hb : 20 ≤ aln b) : fX11_differing a b (nI n) h = some (nI (bs (df (h.1 a) (h.1 b)) n)) := by
  have key := for_up0 (F := fun m x s => fX11_differing_l5 a b (nI n) h m (nI s) x) (fun k s => if df (h.1 a) (h.1 b) k then s ||| 2 ^ k else s) (fun s => some (nI s)) n (by omega) (fun m k s hk => by
      show fX11_differing_l5b a b (fX11_differing_l5 a b (nI n) h m) (nI n) h (nI s) (nI k) = _
      unfold fX11_differing_l5b
      rw [if_pos (nI_lt hk (by omega)), at_in (by omega), at_in (by omega), nI_1]
      by_cases e : h.1 a k = h.1 b k
      · rw [if_pos e, if_neg (by simp [df, e])]
      · rw [if_neg e, if_pos (by simp [df, e]), show fX11_bit (nI k) h = jshl 1 (nI k) from rfl, or_bit (by omega)]
        rfl) (fun m s => by
      show fX11_differing_l5b a b (fX11_differing_l5 a b (nI n) h m) (nI n) h (nI s) (nI n) = _
      unfold fX11_differing_l5b
      rw [if_neg (nI_nlt (Nat.le_refl _) (by omega))]) fuel0 0 0 (by omega) (by have := fuel_big; omega)
  rw [Nat.sub_zero, bs_itf] at key
  exact key
theorem df_cong {r r' s s' : Rw} {n : Nat} (h1 : eqOn n r r') (h2 : eqOn n s s') : ∀ i, i < n → df r s i = df r' s' i := fun i hi => by
  unfold df
  rw [h1 i hi, h2 i hi]
/-- the truth's row, on either side -/
abbrev trX (N : Nat) (h : AH) (r : Rw) : Rw := wk (mX h) 0 N r
theorem ScN.tr {N M x : Nat} {h : AH} (H : ScN N M x h) (r r' : Rw) : eqOn N (wk (mX h) 0 N r) (wk (mM h) 0 N r') := by
  have := wk_cong (M := mX h) (M' := mM h) (k := 0) (N := N) (r := r) (r' := r') (fun i hi r r' e => H.same hi e) (fun i hi => absurd hi (Nat.not_lt_zero i)) (n := N) (by omega)
  rwa [Nat.zero_add] at this
theorem ScN.trE {N M x : Nat} {h : AH} (H : ScN N M x h) (r r' : Rw) : eqOn N (wk (mX h) 0 N r) (wk (mX h) 0 N r') := (H.tr r r').tr (H.tr r' r').sy
theorem WX.core {N M : Nat} {h g : AH} (k : Core h g) (w : WX N M h) : WX N M g := by
  unfold WX
  rw [k.C 6 (by decide), k.C 3 (by decide), k.C 4 (by decide), k.C 8 (by decide), k.C 9 (by decide), k.C 10 (by decide)]
  exact w
theorem mX_core {h g : AH} (k : Core h g) : mX g = mX h := by
  unfold mX
  rw [k.C 3 (by decide), k.C 4 (by decide), k.C 8 (by decide), k.C 9 (by decide), k.C 10 (by decide)]
theorem mM_core {h g : AH} (k : Core h g) : mM g = mM h := by
  unfold mM
  rw [k.P 75 0 (by decide), k.C 76 (by decide), k.C 78 (by decide), k.C 79 (by decide), k.C 80 (by decide)]
/-- the class lays its truth into a row of scratch -/
theorem truth_eq {N M a : Nat} {h : AH} (w : WX N M h) (ha : offX a) (hl : 20 ≤ aln a) : fX9_workOn 0 a h = some (sR h a (wk (mX h) 0 N (h.1 a))) := workOn_eq (k := 0) w ha hl (Nat.zero_le _)
theorem off49 : offX 49 := by unfold offX; omega
/-- the model's places where the claim is not the truth -/
theorem untrueM_eq {N M : Nat} {g : AH} (w : WM N M g) : mo_untrue g = some (nI (bs (df (g.1 77) (wk (mM g) 0 N (g.1 87))) N), sR g 87 (wk (mM g) 0 N (g.1 87))) := by
  have hN := w.N
  unfold mo_untrue fX12_untrue
  rw [laysTruth_eq w, ob]
  have hs : (sR g 87 (wk (mM g) 0 N (g.1 87))).1 75 2 = nI N := (w.sR (by unfold offM; omega)).1
  have e7 : (sR g 87 (wk (mM g) 0 N (g.1 87))).1 77 = g.1 77 := sR_ne _ _ (by decide)
  have e8 : (sR g 87 (wk (mM g) 0 N (g.1 87))).1 87 = wk (mM g) 0 N (g.1 87) := sR_at _ _ _
  generalize sR g 87 (wk (mM g) 0 N (g.1 87)) = g2 at hs e7 e8 ⊢
  have key := for_up0 (F := fun m x s => fX12_untrue_l8 g2 m (nI s) x) (fun k s => if df (g2.1 77) (g2.1 87) k then s ||| 2 ^ k else s) (fun s => some (nI s, g2)) N (by omega) (fun m k s hk => by
      show fX12_untrue_l8b (fX12_untrue_l8 g2 m) g2 (nI s) (nI k) = _
      unfold fX12_untrue_l8b
      have gk := gd (show k < 20 by omega) (by decide)
      rw [hs, if_pos (nI_lt hk (by omega)), if_neg gk, if_neg gk, nI_clamp (by omega), nI_1]
      by_cases e : g2.1 77 k = g2.1 87 k
      · rw [if_pos e, if_neg (by simp [df, e])]
      · rw [if_neg e, if_pos (by simp [df, e]), or_bit (by omega)]
        rfl) (fun m s => by
      show fX12_untrue_l8b (fX12_untrue_l8 g2 m) g2 (nI s) (nI N) = _
      unfold fX12_untrue_l8b
      rw [hs, if_neg (nI_nlt (Nat.le_refl _) (by omega))]) fuel0 0 0 (by omega) (by have := fuel_big; omega)
  rw [Nat.sub_zero, bs_itf, e7, e8] at key
  exact key
theorem st_untrue {h : AH} (I : Inv h) : St xo_untrue mo_untrue h := by
  obtain ⟨⟨N, M, x, H⟩, -⟩ := id I
  have hN := H.N
  refine St.ro (h1 := sR h 49 (wk (mX h) 0 N (h.1 49))) (h2 := sR (sR h 49 (wk (mX h) 0 N (h.1 49))) 87 (wk (mM h) 0 N (h.1 87))) (r := nI (bs (df (h.1 7) (wk (mX h) 0 N (h.1 49))) N)) I ?_ (Core.sR rfl) ?_ (Core.sR rfl)
  · unfold xo_untrue fX11_untrue
    rw [truth_eq H.WX off49 (by decide)]
    show (fX11_differing 7 49 ((sR h 49 (wk (mX h) 0 N (h.1 49))).1 6 0) (sR h 49 (wk (mX h) 0 N (h.1 49)))).bind _ = _
    rw [sR_ne _ _ (by decide), H.sX, differing_eq hN (by decide) (by decide), sR_at, sR_ne _ _ (by decide)]
    rfl
  · have c1 : Core h (sR h 49 (wk (mX h) 0 N (h.1 49))) := Core.sR rfl
    have H' := H.core c1
    rw [untrueM_eq H'.WM, mM_core c1, c1.C 77 (by decide), sR_ne _ _ (show (87 : Nat) ≠ 49 by decide), bs_cong (df_cong H.C.sy (H.tr _ _).sy)]
/-- a slip in a row: what is ahead stays, what is behind is worked on -/
def slp (m : Rw → Nat → Int32) (N i : Nat) (v : Int32) (r : Rw) : Rw := wk m (i + 1) (N - (i + 1)) (upd r i v)
theorem slipIn_eq {N M a i : Nat} {v : Int32} {h : AH} (w : WX N M h) (ha : offX a) (hl : 20 ≤ aln a) (hi : i < N) : fX9_slipIn (nI i) v a h = some (sR h a (slp (mX h) N i v (h.1 a))) := by
  have hN := w.N
  unfold fX9_slipIn
  rw [put_in (by omega), sI_sR]
  show (fX9_workOn (nI i + 1) a (sR h a (upd (h.1 a) i v))).bind _ = _
  rw [nI_1, workOn_eq (w.sR ha) ha hl (by omega), mX_sR ha, sR_at, sR_sR]
  rfl
/-- the model's slip: from one row into another -/
theorem slips_eq {N M a b i : Nat} {v : Int32} {h : AH} (w : WM N M h) (hb : offM b) (hab : a ≠ b) (la : 20 ≤ aln a) (lb : 20 ≤ aln b) (hi : i < N) :
    ∃ r, fX12_slips a b (nI i) v h = some (sR h b r) ∧ eqOn N r (slp (mM h) N i v (h.1 a)) := by
  have hN := w.N
  have sa := aln_small a
  have sb := aln_small b
  let stp : Nat → Rw → Rw := fun k r => upd r k (if k < i then h.1 a k else if k = i then v else mM h r k)
  have key := for_up0 (F := fun n x r => fX12_slips_l3 a b (nI i) v n x (sR h b r)) stp (fun r => some (sR h b r)) N (by omega) (fun n k r hk => by
      show fX12_slips_l3b a b (fX12_slips_l3 a b (nI i) v n) (nI i) v (nI k) (sR h b r) = _
      unfold fX12_slips_l3b
      rw [(w.sR (r := r) hb).1, if_pos (nI_lt hk (by omega)), nI_1]
      have ga := gd (show k < aln a by omega) (by omega)
      have gb := gd (show k < aln b by omega) (by omega)
      rw [if_neg ga, if_neg gb, if_neg gb, makes_eq (w.sR (r := r) hb) hk lb, nI_clamp (by omega), mM_sR hb, sR_at, sR_ne _ _ hab]
      show (if nI k < nI i then letT (sI (sR h b r) b k (h.1 a k)) _ else if nI k = nI i then letT (sI (sR h b r) b k v) _ else if nI k < 0 ∨ aln b ≤ k then none else letT (sI (sR h b r) b k (mM h r k)) _) = fX12_slips_l3 a b (nI i) v n (nI (k + 1)) (sR h b (upd r k (if k < i then h.1 a k else if k = i then v else mM h r k)))
      rw [sI_R, sI_R, sI_R, if_neg (gdn (show k < aln b by omega) (by omega))]
      by_cases c1 : k < i
      · rw [if_pos (nI_lt c1 (by omega)), if_pos c1]
        rfl
      · rw [if_neg (nI_nlt (by omega) (by omega)), if_neg c1]
        by_cases c2 : k = i
        · rw [if_pos (by rw [c2]), if_pos c2]
          rfl
        · rw [if_neg (fun q => c2 ((nI_eq (by omega) (by omega)).mp q)), if_neg c2]
          rfl) (fun n r => by
      show fX12_slips_l3b a b (fX12_slips_l3 a b (nI i) v n) (nI i) v (nI N) (sR h b r) = _
      unfold fX12_slips_l3b
      rw [(w.sR (r := r) hb).1, if_neg (nI_nlt (Nat.le_refl _) (by omega))]) fuel0 0 (h.1 b) (by omega) (by have := fuel_big; omega)
  rw [Nat.sub_zero, sR_self] at key
  refine ⟨_, key, ?_⟩
  -- behind k turns the row is the slip below k
  have inv : ∀ k, k ≤ N → eqOn k (itf stp 0 k (h.1 b)) (slp (mM h) N i v (h.1 a)) := by
    intro k
    induction k with
    | zero => intro _ j hj; omega
    | succ k ih =>
      intro hk j hj
      rw [itf_last, Nat.zero_add]
      show upd (itf stp 0 k (h.1 b)) k _ j = _
      by_cases e : j = k
      · rw [e, upd_at]
        by_cases c1 : k < i
        · rw [if_pos c1]
          unfold slp
          rw [wk_out (by omega), upd_ne _ _ (by omega)]
        · rw [if_neg c1]
          by_cases c2 : k = i
          · rw [if_pos c2]
            unfold slp
            rw [wk_out (by omega), c2, upd_at]
          · rw [if_neg c2]
            have h1 := mM_ahead w k (by omega) _ _ (ih (by omega))
            rw [h1]
            unfold slp
            exact (wk_in' (mM_ahead w) (by omega) (by omega) (by omega)).symm
      · rw [upd_ne _ _ e]
        exact ih (by omega) j (by omega)
  exact inv N (Nat.le_refl _)
theorem ScN.slpE {N M x i : Nat} {v : Int32} {h : AH} (H : ScN N M x h) (hi : i < N) {r r' : Rw} (hr : eqOn N r r') : eqOn N (slp (mX h) N i v r) (slp (mM h) N i v r') := by
  have e := wk_cong (M := mX h) (M' := mM h) (k := i + 1) (N := N) (r := upd r i v) (r' := upd r' i v) (fun i hi r r' e => H.same hi e) (fun j hj => by
    by_cases c : j = i
    · rw [c, upd_at, upd_at]
    · rw [upd_ne _ _ c, upd_ne _ _ c]; exact hr j (by omega)) (n := N - (i + 1)) (by omega)
  have e2 : i + 1 + (N - (i + 1)) = N := by omega
  rwa [e2] at e
theorem off50 : offX 50 := by unfold offX; omega
theorem nI_sub1 {N : Nat} (h0 : 0 < N) : nI N - 1 = nI (N - 1) := by
  obtain ⟨k, rfl⟩ : ∃ k, N = k + 1 := ⟨N - 1, by omega⟩
  rw [nI_pred]
  rfl
theorem st_slip (p v : Int32) {h : AH} (I : Inv h) : St (xo_slip p v) (mo_slip p v) h := by
  obtain ⟨⟨N, M, x, H⟩, -⟩ := id I
  have hN := H.N
  have hM := H.M97
  rcases pl_cases (N := N) (by omega) p with ⟨i, hi, rfl⟩ | hp
  · rcases pl_cases (N := M) (by omega) v with ⟨u, hu, rfl⟩ | hv
    · let h0 : AH := sR h 50 (fun i => if i < min (aln 7) (aln 50) then h.1 7 i else h.1 50 i)
      have c0 : Core h h0 := Core.sR rfl
      have e50 : eqOn N (h0.1 50) (h.1 7) := fun j hj => by
        show (sR h 50 _).1 50 j = _
        rw [sR_at]
        exact if_pos (show j < 20 by omega)
      have w0 := (H.core c0).WX
      let h1 : AH := sR h0 50 (slp (mX h0) N i (nI u) (h0.1 50))
      have c1 : Core h h1 := c0.tr (Core.sR rfl)
      have H1 := H.core c1
      obtain ⟨r, hr1, hr2⟩ := slips_eq (a := 77) (b := 88) (v := nI u) H1.WM (by unfold offM; omega) (by decide) (by decide) (by decide) hi
      refine St.ro (h1 := h1) (h2 := sR h1 88 r) (r := h1.1 50 (N - 1)) I ?_ c1 ?_ (Core.sR rfl)
      · unfold xo_slip fX11_slip
        rw [holds_in H.sX hN hi, isClaimX_in H.eX hM.2 hu, if_neg (by decide), if_neg (by decide), copyRow_eq (by decide)]
        show (fX9_slipIn (nI i) (nI u) 50 h0).bind _ = _
        rw [slipIn_eq w0 off50 (by decide) hi]
        show some (fX11_at 50 (fX6_last h1) h1, h1) = _
        unfold fX6_last
        rw [H1.sX, nI_sub1 (by omega), at_in (show N - 1 < 20 by omega)]
      · unfold mo_slip fX12_slip
        rw [isLine_in H1.sM hN hi, isClaimM_in H1.eM hM.2 hu, if_neg (by decide), if_neg (by decide), hr1]
        show (if ((sR h1 88 r).1 75 2) - 1 < 0 ∨ 20 ≤ (((sR h1 88 r).1 75 2) - 1).toNatClampNeg then none else some ((sR h1 88 r).1 88 (((sR h1 88 r).1 75 2) - 1).toNatClampNeg, sR h1 88 r)) = _
        rw [sR_ne _ _ (by decide), sR_at, H1.sM, nI_sub1 (by omega), if_neg (gd (show N - 1 < 20 by omega) (by decide)), nI_clamp (by omega)]
        have e1 : r (N - 1) = h1.1 50 (N - 1) := by
          rw [hr2 (N - 1) (by omega)]
          show _ = (sR h0 50 _).1 50 (N - 1)
          rw [sR_at, mX_core c0, mM_core c1]
          refine (H.slpE hi ?_ (N - 1) (by omega)).symm
          rw [c1.C 77 (by decide)]
          exact e50.tr H.C
        rw [e1]
    · refine St.ro (r := -1) I ?_ .rf ?_ .rf
      · unfold xo_slip fX11_slip
        rw [holds_in H.sX hN hi, isClaimX_out H.eX hv, if_neg (by decide), if_pos rfl]
      · unfold mo_slip fX12_slip
        rw [isLine_in H.sM hN hi, isClaimM_out H.eM hv, if_neg (by decide), if_pos rfl]
  · refine St.ro (r := -1) I ?_ .rf ?_ .rf
    · unfold xo_slip fX11_slip
      rw [holds_out H.sX hp, if_pos rfl]
    · unfold mo_slip fX12_slip
      rw [isLine_out H.sM hp, if_pos rfl]
