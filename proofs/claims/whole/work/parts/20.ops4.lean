/-! ===== keep, undo, modulus, axiom ===== -/
theorem copyRow_ex {a b n : Nat} {h : AH} (hab : a ≠ b) (la : aln a = n) (lb : aln b = n) : ∃ r, fX11_copyRow a b h = some (sR h b r) ∧ eqOn n r (h.1 a) := by
  refine ⟨_, copyRow_eq hab, fun i hi => ?_⟩
  rw [la, lb, Nat.min_self]
  exact if_pos hi
theorem copies_ex {a b n : Nat} {h : AH} (hab : a ≠ b) (la : aln a = n) (lb : aln b = n) : ∃ r, fX12_copies a b (nI n) h = some (sR h b r) ∧ eqOn n r (h.1 a) := by
  have ha := aln_small a
  have hb := aln_small b
  let stp : Nat → Rw → Rw := fun k r => upd r k (h.1 a k)
  have key := for_up0 (F := fun m x r => fX12_copies_l2 a b (nI n) m x (sR h b r)) stp (fun r => some (sR h b r)) n (by omega) (fun m k r hk => by
      show fX12_copies_l2b a b (fX12_copies_l2 a b (nI n) m) (nI n) (nI k) (sR h b r) = _
      unfold fX12_copies_l2b
      rw [if_pos (nI_lt hk (by omega)), if_neg (gd (show k < aln a by omega) (by omega)), if_neg (gd (show k < aln b by omega) (by omega)), nI_1, nI_clamp (by omega), sR_ne _ _ hab, sI_R]
      rfl) (fun m r => by
      show fX12_copies_l2b a b (fX12_copies_l2 a b (nI n) m) (nI n) (nI n) (sR h b r) = _
      unfold fX12_copies_l2b
      rw [if_neg (nI_nlt (Nat.le_refl _) (by omega))]) fuel0 0 (h.1 b) (by omega) (by have := fuel_big; omega)
  rw [Nat.sub_zero, sR_self] at key
  refine ⟨_, key, ?_⟩
  have inv : ∀ k, eqOn k (itf stp 0 k (h.1 b)) (h.1 a) := by
    intro k
    induction k with
    | zero => intro j hj; omega
    | succ k ih =>
      intro j hj
      rw [itf_last, Nat.zero_add]
      show upd (itf stp 0 k (h.1 b)) k (h.1 a k) j = _
      by_cases e : j = k
      · rw [e, upd_at]
      · rw [upd_ne _ _ e]; exact ih j (by omega)
  exact inv n
theorem Wr.eq {N M : Nat} {m : Int32} {A A' K K' F F' S S' : Rw} (w : Wr N M m A K F S) (hA : eqOn 10 A' A) (hK : eqOn 20 K' K) (hF : eqOn 20 F' F) (hS : eqOn 20 S' S) : Wr N M m A' K' F' S' := by
  obtain ⟨w1, w2, w3, w4, w5, w6⟩ := w
  exact ⟨w1, w2, w3, w4, fun a ha => by rw [hA a ha]; exact w5 a ha, fun i hi => Lw.eq (hK i (by omega)).symm (hF i (by omega)).symm (hS i (by omega)).symm (w6 i hi)⟩
theorem hasb_eq {K K' F F' S S' : Rw} {j i : Nat} (hK : K' j = K j) (hF : F' j = F j) (hS : S' j = S j) : hasb K' F' S' j i = hasb K F S j i := by
  unfold hasb
  rw [hK, hF, hS]
theorem Lw.at {K F S : Rw} {i : Nat} (w : Lw K F S i) (hi : i < 1000) (h0 : ¬ K i = 0) : (F i).toNatClampNeg < i ∧ (¬ S i < 0 → (S i).toNatClampNeg < i) := by
  rcases w with ⟨h, -⟩ | ⟨-, ⟨f, hf, ef⟩, es⟩ | ⟨-, ⟨f, hf, ef⟩, g, hg, eg⟩
  · exact absurd h h0
  · refine ⟨by rw [ef, nI_clamp (by omega)]; exact hf, fun q => absurd (by rw [es]; decide) q⟩
  · exact ⟨by rw [ef, nI_clamp (by omega)]; exact hf, fun _ => by rw [eg, nI_clamp (by omega)]; exact hg⟩
theorem Der.eq {N M : Nat} {m : Int32} {A K K' F F' S S' D D' U U' Nd Nd' : Rw} (w : Wr N M m A K F S) (d : Der N K F S D U Nd) (hK : eqOn 20 K' K) (hF : eqOn 20 F' F) (hS : eqOn 20 S' S) (hD : eqOn 20 D' D) (hU : eqOn 20 U' U) (hn : eqOn 20 Nd' Nd) : Der N K' F' S' D' U' Nd' := by
  intro i hi
  have hN := w.1
  have hi20 : i < 20 := by omega
  have hl := w.2.2.2.2.2 i hi
  obtain ⟨d1, d2, d3, d4, d5⟩ := d i hi
  rw [hD i hi20, hU i hi20, hn i hi20]
  refine ⟨?_, d2, ?_, ?_, d5⟩
  · rw [d1]
    unfold dpf
    rw [hK i hi20, hF i hi20, hS i hi20]
    by_cases h0 : K i = 0
    · rw [if_pos h0, if_pos h0]
    · have ha := hl.at (by omega) h0
      rw [if_neg h0, if_neg h0, hD _ (by omega)]
      by_cases hs : S i < 0
      · rw [if_pos hs, if_pos hs]
      · rw [if_neg hs, if_neg hs, hD _ (by have := ha.2 hs; omega)]
  · rw [d3]
    congr 1
    exact ct_cong (fun j hj => (hasb_eq (hK j (by omega)) (hF j (by omega)) (hS j (by omega))).symm)
  · rw [d4]
    unfold ndf
    rw [hK i hi20, hF i hi20, hS i hi20]
    by_cases h0 : K i = 0
    · rw [if_pos h0, if_pos h0]
    · have ha := hl.at (by omega) h0
      rw [if_neg h0, if_neg h0, hn _ (by omega)]
      by_cases hs : S i < 0
      · rw [if_pos hs, if_pos hs]
      · rw [if_neg hs, if_neg hs, hn _ (by have := ha.2 hs; omega)]
/-- copies of both sides' rows make the same school -/
theorem Sc.copy {N M x : Nat} {sz m xx sz' m' xx' : Int32} {A K F S C D U Nd Pt A' K' F' S' C' Pt' B L G R E O V Z Q B' L' G' R' E' Q' : Rw} (H : Sc N M x sz m xx A K F S C D U Nd Pt sz' m' xx' A' K' F' S' C' Pt')
    (hA : eqOn 10 B A) (hK : eqOn 20 L K) (hF : eqOn 20 G F) (hS : eqOn 20 R S) (hC : eqOn 20 E C) (hD : eqOn 20 O D) (hU : eqOn 20 V U) (hn : eqOn 20 Z Nd) (hp : eqOn 8 Q Pt) (hA' : eqOn 10 B' A') (hK' : eqOn 20 L' K') (hF' : eqOn 20 G' F') (hS' : eqOn 20 R' S') (hC' : eqOn 20 E' C') (hp' : eqOn 8 Q' Pt') :
    Sc N M x sz m xx B L G R E O V Z Q sz' m' xx' B' L' G' R' E' Q' := by
  obtain ⟨a1, a2, a3, a4, a5, a6, a7, a8, a9, a10, a11, a12, a13, a14, a15⟩ := H
  have hN := a7.1
  refine ⟨a1, a2, a3, a4, a5, a6, a7.eq hA hK hF hS, (hA.tr a8).tr hA'.sy, ((hK.le hN).tr a9).tr (hK'.le hN).sy, ((hF.le hN).tr a10).tr (hF'.le hN).sy, ((hS.le hN).tr a11).tr (hS'.le hN).sy, ((hC.le hN).tr a12).tr (hC'.le hN).sy, fun i hi => ?_, a14.eq a7 hK hF hS hD hU hn, fun p hp0 => ?_⟩
  · rw [hC i (by omega)]
    exact a13 i hi
  · rw [hp p hp0, hp' p hp0]
    exact a15 p hp0
theorem keepX_eq {h : AH} : ∃ rA rP rC rK rF rS rD rU rN, xo_keep h = some (h.1 6 0, sI (sR (sR (sR (sR (sR (sR (sR (sI (sR (sR (sI (sI h 14 0 (h.1 3 0)) 14 1 (h.1 3 1)) 15 rA) 16 rP) 17 0 (h.1 6 0)) 18 rC) 19 rK) 20 rF) 21 rS) 22 rD) 23 rU) 24 rN) 0 3 1) ∧ eqOn 10 rA (h.1 4) ∧ eqOn 8 rP (h.1 5) ∧ eqOn 20 rC (h.1 7) ∧ eqOn 20 rK (h.1 8) ∧ eqOn 20 rF (h.1 9) ∧ eqOn 20 rS (h.1 10) ∧ eqOn 20 rD (h.1 11) ∧ eqOn 20 rU (h.1 12) ∧ eqOn 20 rN (h.1 13) := by
  obtain ⟨rA, e1, q1⟩ := copyRow_ex (a := 4) (b := 15) (n := 10) (h := sI (sI h 14 0 (h.1 3 0)) 14 1 (h.1 3 1)) (by decide) rfl rfl
  obtain ⟨rP, e2, q2⟩ := copyRow_ex (a := 5) (b := 16) (n := 8) (h := sR (sI (sI h 14 0 (h.1 3 0)) 14 1 (h.1 3 1)) 15 rA) (by decide) rfl rfl
  generalize eg : sR (sR (sI (sI h 14 0 (h.1 3 0)) 14 1 (h.1 3 1)) 15 rA) 16 rP = g at e2
  have f6 : g.1 6 = h.1 6 := by rw [← eg]; rfl
  have f7 : g.1 7 = h.1 7 := by rw [← eg]; rfl
  have f8 : g.1 8 = h.1 8 := by rw [← eg]; rfl
  have f9 : g.1 9 = h.1 9 := by rw [← eg]; rfl
  have f10 : g.1 10 = h.1 10 := by rw [← eg]; rfl
  have f11 : g.1 11 = h.1 11 := by rw [← eg]; rfl
  have f12 : g.1 12 = h.1 12 := by rw [← eg]; rfl
  have f13 : g.1 13 = h.1 13 := by rw [← eg]; rfl
  obtain ⟨rC, e3, q3⟩ := copyRow_ex (a := 7) (b := 18) (n := 20) (h := sI g 17 0 (g.1 6 0)) (by decide) rfl rfl
  obtain ⟨rK, e4, q4⟩ := copyRow_ex (a := 8) (b := 19) (n := 20) (h := sR (sI g 17 0 (g.1 6 0)) 18 rC) (by decide) rfl rfl
  obtain ⟨rF, e5, q5⟩ := copyRow_ex (a := 9) (b := 20) (n := 20) (h := sR (sR (sI g 17 0 (g.1 6 0)) 18 rC) 19 rK) (by decide) rfl rfl
  obtain ⟨rS, e6, q6⟩ := copyRow_ex (a := 10) (b := 21) (n := 20) (h := sR (sR (sR (sI g 17 0 (g.1 6 0)) 18 rC) 19 rK) 20 rF) (by decide) rfl rfl
  obtain ⟨rD, e7, q7⟩ := copyRow_ex (a := 11) (b := 22) (n := 20) (h := sR (sR (sR (sR (sI g 17 0 (g.1 6 0)) 18 rC) 19 rK) 20 rF) 21 rS) (by decide) rfl rfl
  obtain ⟨rU, e8, q8⟩ := copyRow_ex (a := 12) (b := 23) (n := 20) (h := sR (sR (sR (sR (sR (sI g 17 0 (g.1 6 0)) 18 rC) 19 rK) 20 rF) 21 rS) 22 rD) (by decide) rfl rfl
  obtain ⟨rN, e9, q9⟩ := copyRow_ex (a := 13) (b := 24) (n := 20) (h := sR (sR (sR (sR (sR (sR (sI g 17 0 (g.1 6 0)) 18 rC) 19 rK) 20 rF) 21 rS) 22 rD) 23 rU) (by decide) rfl rfl
  refine ⟨rA, rP, rC, rK, rF, rS, rD, rU, rN, ?_, q1, q2, by rw [← f7]; exact q3, by rw [← f8]; exact q4, by rw [← f9]; exact q5, by rw [← f10]; exact q6, by rw [← f11]; exact q7, by rw [← f12]; exact q8, by rw [← f13]; exact q9⟩
  unfold xo_keep fX11_keep fX9_become
  dsimp only [letT]
  have z : (sI h 14 0 (h.1 3 0)).1 3 1 = h.1 3 1 := rfl
  rw [z, e1, ob, e2, ob]
  unfold fX6_become_1
  dsimp only [letT]
  rw [e3, ob, e4, ob, e5, ob, e6, ob, e7, ob, e8, ob, e9, ob, ob, ob, eg, f6]
  exact congrArg some (Prod.ext (congrFun f6 0) rfl)
theorem keepM_eq {h : AH} : ∃ rA rC rK rF rS rP, mo_keep h = some (h.1 75 2, sR (sR (sR (sR (sR (sR (sI (sI (sI (sI h 75 55 1) 75 56 (h.1 75 0)) 75 57 (h.1 75 2)) 75 58 (h.1 75 1)) 111 rA) 112 rC) 113 rK) 114 rF) 115 rS) 116 rP) ∧ eqOn 10 rA (h.1 76) ∧ eqOn 20 rC (h.1 77) ∧ eqOn 20 rK (h.1 78) ∧ eqOn 20 rF (h.1 79) ∧ eqOn 20 rS (h.1 80) ∧ eqOn 8 rP (h.1 81) := by
  obtain ⟨g, eg⟩ : ∃ g, g = sI (sI (sI (sI h 75 55 1) 75 56 (h.1 75 0)) 75 57 (h.1 75 2)) 75 58 (h.1 75 1) := ⟨_, rfl⟩
  have f6 : g.1 76 = h.1 76 := by rw [eg]; rfl
  have f7 : g.1 77 = h.1 77 := by rw [eg]; rfl
  have f8 : g.1 78 = h.1 78 := by rw [eg]; rfl
  have f9 : g.1 79 = h.1 79 := by rw [eg]; rfl
  have f10 : g.1 80 = h.1 80 := by rw [eg]; rfl
  have f11 : g.1 81 = h.1 81 := by rw [eg]; rfl
  have f2 : g.1 75 2 = h.1 75 2 := by rw [eg]; rfl
  obtain ⟨rA, e1, q1⟩ := copies_ex (a := 76) (b := 111) (n := 10) (h := g) (by decide) rfl rfl
  obtain ⟨rC, e2, q2⟩ := copies_ex (a := 77) (b := 112) (n := 20) (h := sR g 111 rA) (by decide) rfl rfl
  obtain ⟨rK, e3, q3⟩ := copies_ex (a := 78) (b := 113) (n := 20) (h := sR (sR g 111 rA) 112 rC) (by decide) rfl rfl
  obtain ⟨rF, e4, q4⟩ := copies_ex (a := 79) (b := 114) (n := 20) (h := sR (sR (sR g 111 rA) 112 rC) 113 rK) (by decide) rfl rfl
  obtain ⟨rS, e5, q5⟩ := copies_ex (a := 80) (b := 115) (n := 20) (h := sR (sR (sR (sR g 111 rA) 112 rC) 113 rK) 114 rF) (by decide) rfl rfl
  obtain ⟨rP, e6, q6⟩ := copies_ex (a := 81) (b := 116) (n := 8) (h := sR (sR (sR (sR (sR g 111 rA) 112 rC) 113 rK) 114 rF) 115 rS) (by decide) rfl rfl
  refine ⟨rA, rC, rK, rF, rS, rP, ?_, by rw [← f6]; exact q1, by rw [← f7]; exact q2, by rw [← f8]; exact q3, by rw [← f9]; exact q4, by rw [← f10]; exact q5, by rw [← f11]; exact q6⟩
  unfold mo_keep fX12_keep
  dsimp only [letT]
  have z1 : (sI h 75 55 (1 : Int32)).1 75 0 = h.1 75 0 := rfl
  have z2 : (sI (sI h 75 55 (1 : Int32)) 75 56 (h.1 75 0)).1 75 2 = h.1 75 2 := rfl
  have z3 : (sI (sI (sI h 75 55 (1 : Int32)) 75 56 (h.1 75 0)) 75 57 (h.1 75 2)).1 75 1 = h.1 75 1 := rfl
  rw [z1, z2, z3, ← eg]
  rw [show (10 : Int32) = nI 10 from rfl, show (20 : Int32) = nI 20 from rfl, show (8 : Int32) = nI 8 from rfl, e1, ob, e2, ob, e3, ob, e4, ob, e5, ob, e6, ob, ← f2]
  rfl
theorem st_keep {h : AH} (I : Inv h) : St xo_keep mo_keep h := by
  obtain ⟨⟨N, M, x, H⟩, hk, ⟨T, hT⟩, n, hL⟩ := I
  obtain ⟨rA, rP, rC, rK, rF, rS, rD, rU, rN, hX, a1, a2, a3, a4, a5, a6, a7, a8, a9⟩ := keepX_eq (h := h)
  generalize eg : sI (sR (sR (sR (sR (sR (sR (sR (sI (sR (sR (sI (sI h 14 0 (h.1 3 0)) 14 1 (h.1 3 1)) 15 rA) 16 rP) 17 0 (h.1 6 0)) 18 rC) 19 rK) 20 rF) 21 rS) 22 rD) 23 rU) 24 rN) 0 3 1 = g at hX
  obtain ⟨sA, sC, sK, sF, sS, sP, hM, b1, b2, b3, b4, b5, b6⟩ := keepM_eq (h := g)
  have gM : g.1 75 = h.1 75 := by rw [← eg]; rfl
  rw [gM, H.sM, ← H.sX] at hM
  refine ⟨_, _, _, hX, hM, ⟨N, M, x, ?_⟩, Or.inr ⟨?_, ?_, N, M, x, ?_⟩, ⟨T, ?_⟩, n, ?_⟩
  · rw [← eg]; exact H
  · rw [← eg]; rfl
  · rfl
  · have c := Sc.copy H a1 a4 a5 a6 a3 a7 a8 a9 a2 (show eqOn 10 sA (h.1 76) by rw [← eg] at b1; exact b1) (show eqOn 20 sK (h.1 78) by rw [← eg] at b3; exact b3) (show eqOn 20 sF (h.1 79) by rw [← eg] at b4; exact b4) (show eqOn 20 sS (h.1 80) by rw [← eg] at b5; exact b5) (show eqOn 20 sC (h.1 77) by rw [← eg] at b2; exact b2) (show eqOn 8 sP (h.1 81) by rw [← eg] at b6; exact b6)
    obtain ⟨c1, c2, c3, c4, c5, c6, c7⟩ := c
    rw [← eg]
    exact ⟨c1, c1, c3, c4, c5, c6, c7⟩
  · rw [← eg]; exact hT
  · rw [← eg]; exact hL
theorem undoX_eq {h : AH} (h0 : h.1 0 3 = 1) : ∃ rA rP rC rK rF rS rD rU rN, xo_undo h = some (1, sR (sR (sR (sR (sR (sR (sR (sI (sR (sR (sI (sI h 3 0 (h.1 14 0)) 3 1 (h.1 14 1)) 4 rA) 5 rP) 6 0 (h.1 17 0)) 7 rC) 8 rK) 9 rF) 10 rS) 11 rD) 12 rU) 13 rN) ∧ eqOn 10 rA (h.1 15) ∧ eqOn 8 rP (h.1 16) ∧ eqOn 20 rC (h.1 18) ∧ eqOn 20 rK (h.1 19) ∧ eqOn 20 rF (h.1 20) ∧ eqOn 20 rS (h.1 21) ∧ eqOn 20 rD (h.1 22) ∧ eqOn 20 rU (h.1 23) ∧ eqOn 20 rN (h.1 24) := by
  obtain ⟨rA, e1, q1⟩ := copyRow_ex (a := 15) (b := 4) (n := 10) (h := sI (sI h 3 0 (h.1 14 0)) 3 1 (h.1 14 1)) (by decide) rfl rfl
  obtain ⟨rP, e2, q2⟩ := copyRow_ex (a := 16) (b := 5) (n := 8) (h := sR (sI (sI h 3 0 (h.1 14 0)) 3 1 (h.1 14 1)) 4 rA) (by decide) rfl rfl
  generalize eg : sR (sR (sI (sI h 3 0 (h.1 14 0)) 3 1 (h.1 14 1)) 4 rA) 5 rP = g at e2
  have f6 : g.1 17 = h.1 17 := by rw [← eg]; rfl
  have f7 : g.1 18 = h.1 18 := by rw [← eg]; rfl
  have f8 : g.1 19 = h.1 19 := by rw [← eg]; rfl
  have f9 : g.1 20 = h.1 20 := by rw [← eg]; rfl
  have f10 : g.1 21 = h.1 21 := by rw [← eg]; rfl
  have f11 : g.1 22 = h.1 22 := by rw [← eg]; rfl
  have f12 : g.1 23 = h.1 23 := by rw [← eg]; rfl
  have f13 : g.1 24 = h.1 24 := by rw [← eg]; rfl
  obtain ⟨rC, e3, q3⟩ := copyRow_ex (a := 18) (b := 7) (n := 20) (h := sI g 6 0 (g.1 17 0)) (by decide) rfl rfl
  obtain ⟨rK, e4, q4⟩ := copyRow_ex (a := 19) (b := 8) (n := 20) (h := sR (sI g 6 0 (g.1 17 0)) 7 rC) (by decide) rfl rfl
  obtain ⟨rF, e5, q5⟩ := copyRow_ex (a := 20) (b := 9) (n := 20) (h := sR (sR (sI g 6 0 (g.1 17 0)) 7 rC) 8 rK) (by decide) rfl rfl
  obtain ⟨rS, e6, q6⟩ := copyRow_ex (a := 21) (b := 10) (n := 20) (h := sR (sR (sR (sI g 6 0 (g.1 17 0)) 7 rC) 8 rK) 9 rF) (by decide) rfl rfl
  obtain ⟨rD, e7, q7⟩ := copyRow_ex (a := 22) (b := 11) (n := 20) (h := sR (sR (sR (sR (sI g 6 0 (g.1 17 0)) 7 rC) 8 rK) 9 rF) 10 rS) (by decide) rfl rfl
  obtain ⟨rU, e8, q8⟩ := copyRow_ex (a := 23) (b := 12) (n := 20) (h := sR (sR (sR (sR (sR (sI g 6 0 (g.1 17 0)) 7 rC) 8 rK) 9 rF) 10 rS) 11 rD) (by decide) rfl rfl
  obtain ⟨rN, e9, q9⟩ := copyRow_ex (a := 24) (b := 13) (n := 20) (h := sR (sR (sR (sR (sR (sR (sI g 6 0 (g.1 17 0)) 7 rC) 8 rK) 9 rF) 10 rS) 11 rD) 12 rU) (by decide) rfl rfl
  refine ⟨rA, rP, rC, rK, rF, rS, rD, rU, rN, ?_, q1, q2, by rw [← f7]; exact q3, by rw [← f8]; exact q4, by rw [← f9]; exact q5, by rw [← f10]; exact q6, by rw [← f11]; exact q7, by rw [← f12]; exact q8, by rw [← f13]; exact q9⟩
  unfold xo_undo fX11_undo fX9_become_1
  dsimp only [letT]
  have z : (sI h 3 0 (h.1 14 0)).1 14 1 = h.1 14 1 := rfl
  rw [if_neg (by rw [h0]; decide), z, e1, ob, e2, ob]
  unfold fX6_become_2
  dsimp only [letT]
  rw [e3, ob, e4, ob, e5, ob, e6, ob, e7, ob, e8, ob, e9, ob, ob, ob, eg, f6]
theorem undoM_eq {h : AH} (h0 : h.1 75 55 = 1) : ∃ rA rC rK rF rS rP, mo_undo h = some (1, sR (sR (sR (sR (sR (sR (sI (sI (sI h 75 0 (h.1 75 56)) 75 2 (h.1 75 57)) 75 1 (h.1 75 58)) 76 rA) 77 rC) 78 rK) 79 rF) 80 rS) 81 rP) ∧ eqOn 10 rA (h.1 111) ∧ eqOn 20 rC (h.1 112) ∧ eqOn 20 rK (h.1 113) ∧ eqOn 20 rF (h.1 114) ∧ eqOn 20 rS (h.1 115) ∧ eqOn 8 rP (h.1 116) := by
  obtain ⟨g, eg⟩ : ∃ g, g = sI (sI (sI h 75 0 (h.1 75 56)) 75 2 (h.1 75 57)) 75 1 (h.1 75 58) := ⟨_, rfl⟩
  have f6 : g.1 111 = h.1 111 := by rw [eg]; rfl
  have f7 : g.1 112 = h.1 112 := by rw [eg]; rfl
  have f8 : g.1 113 = h.1 113 := by rw [eg]; rfl
  have f9 : g.1 114 = h.1 114 := by rw [eg]; rfl
  have f10 : g.1 115 = h.1 115 := by rw [eg]; rfl
  have f11 : g.1 116 = h.1 116 := by rw [eg]; rfl
  obtain ⟨rA, e1, q1⟩ := copies_ex (a := 111) (b := 76) (n := 10) (h := g) (by decide) rfl rfl
  obtain ⟨rC, e2, q2⟩ := copies_ex (a := 112) (b := 77) (n := 20) (h := sR g 76 rA) (by decide) rfl rfl
  obtain ⟨rK, e3, q3⟩ := copies_ex (a := 113) (b := 78) (n := 20) (h := sR (sR g 76 rA) 77 rC) (by decide) rfl rfl
  obtain ⟨rF, e4, q4⟩ := copies_ex (a := 114) (b := 79) (n := 20) (h := sR (sR (sR g 76 rA) 77 rC) 78 rK) (by decide) rfl rfl
  obtain ⟨rS, e5, q5⟩ := copies_ex (a := 115) (b := 80) (n := 20) (h := sR (sR (sR (sR g 76 rA) 77 rC) 78 rK) 79 rF) (by decide) rfl rfl
  obtain ⟨rP, e6, q6⟩ := copies_ex (a := 116) (b := 81) (n := 8) (h := sR (sR (sR (sR (sR g 76 rA) 77 rC) 78 rK) 79 rF) 80 rS) (by decide) rfl rfl
  refine ⟨rA, rC, rK, rF, rS, rP, ?_, by rw [← f6]; exact q1, by rw [← f7]; exact q2, by rw [← f8]; exact q3, by rw [← f9]; exact q4, by rw [← f10]; exact q5, by rw [← f11]; exact q6⟩
  unfold mo_undo fX12_undo
  dsimp only [letT]
  have z2 : (sI h 75 0 (h.1 75 56)).1 75 57 = h.1 75 57 := rfl
  have z3 : (sI (sI h 75 0 (h.1 75 56)) 75 2 (h.1 75 57)).1 75 58 = h.1 75 58 := rfl
  rw [if_neg (by rw [h0]; decide), z2, z3, ← eg, show (10 : Int32) = nI 10 from rfl, show (20 : Int32) = nI 20 from rfl, show (8 : Int32) = nI 8 from rfl, e1, ob, e2, ob, e3, ob, e4, ob, e5, ob, e6, ob]
theorem st_undo {h : AH} (I : Inv h) : St xo_undo mo_undo h := by
  obtain ⟨⟨N, M, x, H⟩, hk, ⟨T, hT⟩, n, hL⟩ := id I
  rcases hk with ⟨k1, k2⟩ | ⟨k1, k2, N', M', x', HK⟩
  · refine St.ro (r := 0) I ?_ .rf ?_ .rf
    · unfold xo_undo fX11_undo
      rw [if_pos k1]
    · unfold mo_undo fX12_undo
      rw [if_pos k2]
  · obtain ⟨rA, rP, rC, rK, rF, rS, rD, rU, rN, hX, a1, a2, a3, a4, a5, a6, a7, a8, a9⟩ := undoX_eq k1
    generalize eg : sR (sR (sR (sR (sR (sR (sR (sI (sR (sR (sI (sI h 3 0 (h.1 14 0)) 3 1 (h.1 14 1)) 4 rA) 5 rP) 6 0 (h.1 17 0)) 7 rC) 8 rK) 9 rF) 10 rS) 11 rD) 12 rU) 13 rN = g at hX
    obtain ⟨sA, sC, sK, sF, sS, sP, hM, b1, b2, b3, b4, b5, b6⟩ := undoM_eq (h := g) (by rw [← eg]; exact k2)
    have c := Sc.copy HK a1 a4 a5 a6 a3 a7 a8 a9 a2 (show eqOn 10 sA (h.1 111) by rw [← eg] at b1; exact b1) (show eqOn 20 sK (h.1 113) by rw [← eg] at b3; exact b3) (show eqOn 20 sF (h.1 114) by rw [← eg] at b4; exact b4) (show eqOn 20 sS (h.1 115) by rw [← eg] at b5; exact b5) (show eqOn 20 sC (h.1 112) by rw [← eg] at b2; exact b2) (show eqOn 8 sP (h.1 116) by rw [← eg] at b6; exact b6)
    refine ⟨_, _, _, hX, hM, ⟨N', M', x', ?_⟩, Or.inr ⟨?_, ?_, N', M', x', ?_⟩, ⟨T, ?_⟩, n, ?_⟩
    · rw [← eg]; exact c
    · rw [← eg]; exact k1
    · rw [← eg]; exact k2
    · rw [← eg]; exact HK
    · rw [← eg]; exact hT
    · rw [← eg]; exact hL
-- axiom
theorem st_axiom (p v : Int32) {h : AH} (I : Inv h) : St (xo_axiom p v) (mo_axiom p v) h := by
  obtain ⟨⟨N, M, x, H⟩, hk, ⟨T, hT⟩, n, hL⟩ := id I
  have hM := H.M97
  have hm1 : h.1 75 0 - 1 = nI (M - 1) := by rw [H.eM, nI_sub1 (by omega)]
  rcases pl_cases (N := 10) (by decide) p with ⟨a, ha, rfl⟩ | hp
  · have hin : fX12_in (nI a) 0 9 h = 1 := in_yes (nI_pos (by omega)) (show ¬ nI 9 < nI a from nI_nlt (by omega) (by omega))
    rcases pl_cases (N := M) (by omega) v with ⟨u, hu, rfl⟩ | hv
    · refine ⟨1, sI h 4 a (nI u), sI (sI h 4 a (nI u)) 76 a (nI u), ?_, ?_, ?_⟩
      · unfold xo_axiom fX11_axiom
        rw [if_neg (nI_pos (by omega)), if_pos (show nI a < 10 from nI_lt ha (by decide)), isClaimX_in H.eX hM.2 hu, if_neg (by decide), put_in (show a < aln 4 from ha)]
        rfl
      · unfold mo_axiom fX12_axiom
        have e0 : (sI h 4 a (nI u)).1 75 0 - 1 = nI (M - 1) := hm1
        rw [show fX12_in (nI a) 0 9 (sI h 4 a (nI u)) = 1 from hin, e0, in_yes (nI_pos (by omega)) (nI_nlt (by omega) (by omega)), if_neg (by decide), if_neg (by decide), if_neg (gd ha (by decide)), nI_clamp (by omega)]
        rfl
      · obtain ⟨a1, a2, a3, a4, a5, a6, ⟨w1, w2, w3, w4, w5, w6⟩, a8, a9⟩ := H
        refine ⟨⟨N, M, x, a1, a2, a3, a4, a5, a6, ⟨w1, w2, w3, w4, fun b hb => ?_, w6⟩, fun b hb => ?_, a9⟩, hk, ⟨T, hT⟩, n, hL⟩
        · show ∃ v, v < M ∧ (sI h 4 a (nI u)).1 4 b = nI v
          rw [sI_at]
          by_cases e : b = a
          · rw [e, upd_at]; exact ⟨u, hu, rfl⟩
          · rw [upd_ne _ _ e]; exact w5 b hb
        · show (sI h 4 a (nI u)).1 4 b = (sI (sI h 4 a (nI u)) 76 a (nI u)).1 76 b
          rw [sI_at, sI_at]
          show upd (h.1 4) a (nI u) b = upd (h.1 76) a (nI u) b
          by_cases e : b = a
          · rw [e, upd_at, upd_at]
          · rw [upd_ne _ _ e, upd_ne _ _ e]; exact a8 b hb
    · refine St.ro (r := 0) I ?_ .rf ?_ .rf
      · unfold xo_axiom fX11_axiom
        rw [if_neg (nI_pos (by omega)), if_pos (show nI a < 10 from nI_lt ha (by decide)), isClaimX_out H.eX hv, if_pos rfl]
      · unfold mo_axiom fX12_axiom
        have hno : v < 0 ∨ nI (M - 1) < v := by
          rcases hv with h1 | ⟨h1, h2⟩
          · exact Or.inl h1
          · obtain ⟨j, hj, rfl⟩ := nI_of h1
            refine Or.inr (nI_lt ?_ hj)
            by_cases q : j < M
            · exact absurd (nI_lt q (by omega)) h2
            · omega
        rw [hin, hm1, in_no hno, if_neg (by decide), if_pos rfl]
  · refine St.ro (r := 0) I ?_ .rf ?_ .rf
    · unfold xo_axiom fX11_axiom
      rcases hp with h1 | ⟨h1, h2⟩
      · rw [if_pos h1]
      · rw [if_neg h1, if_neg (show ¬ p < 10 from h2)]
    · unfold mo_axiom fX12_axiom
      have hno : p < 0 ∨ (9 : Int32) < p := by
        rcases hp with h1 | ⟨h1, h2⟩
        · exact Or.inl h1
        · obtain ⟨j, hj, rfl⟩ := nI_of h1
          refine Or.inr (show nI 9 < nI j from nI_lt ?_ hj)
          by_cases q : j < 10
          · exact absurd (nI_lt q (by omega)) h2
          · omega
      rw [in_no hno, if_pos rfl]
