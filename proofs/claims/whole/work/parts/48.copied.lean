/-! ===== copied ===== -/
theorem sI_sI (h : AH) (a j : Nat) (u v : Int32) : sI (sI h a j u) a j v = sI h a j v := by
  rw [sI_sR, sI_at, sI_sR, sI_sR, sR_sR, upd_upd]
theorem lookAt_w {N M i : Nat} {h g : AH} {cl he : Int32} (c : Core h g) (i20 : i < 20) (e6 : h.1 6 0 = nI N) (e3 : h.1 3 0 = nI M) : ∃ g', fX4_lookAt (nI i) cl he g = g' ∧ FX g g' ∧ eqOn 8 (g'.1 47) (ffc h N M i cl he) := by
  refine ⟨_, rfl, ?_, ?_⟩
  · unfold fX4_lookAt
    dsimp only [letT]
    have pp : ∀ (k : Int32) (v : Int32) (g : AH), FX g (fX11_put 47 k v g) := fun k v g => by
      unfold fX11_put
      split
      · exact FX.rf
      · split
        · exact ⟨fun a h1 h2 h3 => sI_ne _ _ _ h2, fun j h1 h2 => rfl⟩
        · exact FX.rf
    exact ((((((pp _ _ _).tr (pp _ _ _)).tr (pp _ _ _)).tr (pp _ _ _)).tr (pp _ _ _)).tr (pp _ _ _)).tr (pp _ _ _) |>.tr (pp _ _ _)
  · unfold fX4_lookAt
    dsimp only [letT]
    have p0 : ∀ v h, fX11_put 47 (0 : Int32) v h = sI h 47 0 v := fun v h => put_in (i := 0) (by decide)
    have p1 : ∀ v h, fX11_put 47 (1 : Int32) v h = sI h 47 1 v := fun v h => put_in (i := 1) (by decide)
    have p2 : ∀ v h, fX11_put 47 (2 : Int32) v h = sI h 47 2 v := fun v h => put_in (i := 2) (by decide)
    have p3 : ∀ v h, fX11_put 47 (3 : Int32) v h = sI h 47 3 v := fun v h => put_in (i := 3) (by decide)
    have p4 : ∀ v h, fX11_put 47 (4 : Int32) v h = sI h 47 4 v := fun v h => put_in (i := 4) (by decide)
    have p5 : ∀ v h, fX11_put 47 (5 : Int32) v h = sI h 47 5 v := fun v h => put_in (i := 5) (by decide)
    have p6 : ∀ v h, fX11_put 47 (6 : Int32) v h = sI h 47 6 v := fun v h => put_in (i := 6) (by decide)
    have p7 : ∀ v h, fX11_put 47 (7 : Int32) v h = sI h 47 7 v := fun v h => put_in (i := 7) (by decide)
    rw [p0, p1, p2, p3, p4, p5, p6, p7, at_in (show i < aln 8 from i20), at_in (show i < aln 11 from i20), at_in (show i < aln 12 from i20)]
    intro j hj
    have : j = 0 ∨ j = 1 ∨ j = 2 ∨ j = 3 ∨ j = 4 ∨ j = 5 ∨ j = 6 ∨ j = 7 := by omega
    rcases this with rfl | rfl | rfl | rfl | rfl | rfl | rfl | rfl
    · rfl
    · show g.1 8 i = h.1 8 i
      rw [c.C 8 (by decide)]
    · rfl
    · show g.1 11 i = h.1 11 i
      rw [c.C 11 (by decide)]
    · show g.1 12 i = h.1 12 i
      rw [c.C 12 (by decide)]
    · show g.1 6 0 = nI N
      rw [c.C 6 (by decide)]; exact e6
    · show g.1 3 0 = nI M
      rw [c.C 3 (by decide)]; exact e3
    · rfl
theorem feels_w {N M x i : Nat} {h g : AH} {cl he : Int32} (H : ScN N M x h) (w : WM N M g) (e78 : g.1 78 = h.1 78) (e79 : g.1 79 = h.1 79) (e80 : g.1 80 = h.1 80) (em : g.1 75 0 = nI M) (hi : i < N) : ∃ g', fX12_feels (nI i) cl he g = some g' ∧ FM g g' ∧ eqOn 8 (g'.1 103) (ffc h N M i cl he) := by
  have hN := H.N
  have g20 := gd (show i < 20 by omega) (by decide)
  unfold fX12_feels
  dsimp only [letT]
  rw [if_neg g20, nI_clamp (by omega)]
  obtain ⟨g1, e1⟩ : ∃ g1, g1 = sI (sI (sI g 103 (0 : Int32).toNatClampNeg (nI i)) 103 (1 : Int32).toNatClampNeg ((sI g 103 (0 : Int32).toNatClampNeg (nI i)).1 78 i)) 103 (2 : Int32).toNatClampNeg cl := ⟨_, rfl⟩
  rw [← e1]
  have f1 : FM g g1 := by rw [e1]; exact (FM.sI103.tr FM.sI103).tr FM.sI103
  have hdp : ∀ j, j < N → h.1 11 j = dpf (g1.1 78) (g1.1 79) (g1.1 80) (h.1 11) j ∧ ∃ d, d ≤ j ∧ h.1 11 j = nI d := by
    rw [f1 78 (by decide) (by decide) (by decide), f1 79 (by decide) (by decide) (by decide), f1 80 (by decide) (by decide) (by decide), e78, e79, e80]
    exact H.dp
  obtain ⟨rd, hd⟩ := depthOf_eq (h := g1) (w.core f1.core) hi hdp
  rw [hd, ob]
  dsimp only
  obtain ⟨g2, e2⟩ : ∃ g2, g2 = sI (sR g1 90 rd) 103 (3 : Int32).toNatClampNeg (h.1 11 i) := ⟨_, rfl⟩
  rw [← e2]
  have f2 : FM g1 g2 := by
    rw [e2]
    exact FM.tr (b := sR g1 90 rd) (fun a h1 _ _ => sR_ne _ _ h1) FM.sI103
  have f12 := f1.tr f2
  have w2 := w.core f12.core
  have eus : (fun j => hbM g2 j i) = (fun j => hbM h j i) := by
    funext j
    unfold hbM
    rw [f12 78 (by decide) (by decide) (by decide), f12 79 (by decide) (by decide) (by decide), f12 80 (by decide) (by decide) (by decide), e78, e79, e80]
  rw [usedBy_eq w2, ob, eus, ← H.us hi]
  refine ⟨_, rfl, f12.tr (((FM.sI103.tr FM.sI103).tr FM.sI103).tr FM.sI103), ?_⟩
  have r103 : g2.1 103 = upd (upd (upd (upd (g.1 103) 0 (nI i)) 1 (g.1 78 i)) 2 cl) 3 (h.1 11 i) := by rw [e2, e1]; rfl
  intro j hj
  have : j = 0 ∨ j = 1 ∨ j = 2 ∨ j = 3 ∨ j = 4 ∨ j = 5 ∨ j = 6 ∨ j = 7 := by omega
  rcases this with rfl | rfl | rfl | rfl | rfl | rfl | rfl | rfl
  · show g2.1 103 0 = nI i
    rw [r103]; rfl
  · show g2.1 103 1 = h.1 8 i
    rw [r103]
    show g.1 78 i = h.1 8 i
    rw [e78]
    exact (H.rows hi).2.1.symm
  · show g2.1 103 2 = cl
    rw [r103]; rfl
  · show g2.1 103 3 = h.1 11 i
    rw [r103]; rfl
  · rfl
  · exact w2.1
  · show g2.1 75 0 = nI M
    rw [f12 75 (by decide) (by decide) (by decide)]
    exact em
  · rfl
def cpx (x : Nat) : Nat := (25173 * x + 13849) % 65536
def cpA (h : AH) (N M n : Nat) (L : Nat → Int32) (C V : Nat → Rw → Int32) (x : Nat) (R : Rw) : Bool := decide (nI (x / 32 % 10) < ama n L C V 99 10 (ffc h N M (x % N) (R (x % N)) 0))
def cpV (M x : Nat) (u : Int32) : Int32 := jrem (u + 1 + nI (x / 512 % (M - 1))) (nI M)
/-- one line copied: X, the claims, how many slips -/
def cpS (h : AH) (N M n : Nat) (L : Nat → Int32) (C V : Nat → Rw → Int32) (s : Nat × Rw × Nat) : Nat × Rw × Nat :=
  if cpA h N M n L C V (cpx s.1) s.2.1 then (cpx s.1, slp (mX h) N (cpx s.1 % N) (cpV M (cpx s.1) (s.2.1 (cpx s.1 % N))) s.2.1, s.2.2 + 1) else (cpx s.1, s.2.1, s.2.2)
theorem cpx_lt (x : Nat) : cpx x < 65536 := Nat.mod_lt _ (by decide)
theorem cpV_cl {M x u : Nat} (hM : 2 ≤ M) (h97 : M ≤ 97) (hu : u < M) : ∃ v, v < M ∧ cpV M x (nI u) = nI v := by
  have h1 : x / 512 % (M - 1) < M - 1 := Nat.mod_lt _ (by omega)
  refine ⟨(u + 1 + x / 512 % (M - 1)) % M, Nat.mod_lt _ (by omega), ?_⟩
  unfold cpV
  rw [nI_1, nI_add, jrem_nI (by omega) (by omega) (by omega)]
theorem cpS_cl {N M x n : Nat} {h : AH} {L : Nat → Int32} {C V : Nat → Rw → Int32} (H : ScN N M x h) (h0 : 0 < N) {s : Nat × Rw × Nat} (hc : Cl N M s.2.1) : Cl N M (cpS h N M n L C V s).2.1 := by
  unfold cpS
  generalize cpx s.1 = y
  split
  · have hi : y % N < N := Nat.mod_lt _ h0
    obtain ⟨u, hu, eu⟩ := hc _ hi
    refine slp_cl H.WX.2 hi hc ?_
    rw [eu]
    exact cpV_cl H.M97.1 H.M97.2 hu
  · exact hc
theorem copyOnce_eq {N M x n : Nat} {h g : AH} {L : Nat → Int32} {C V : Nat → Rw → Int32} {s : Nat × Rw × Nat} (H : ScN N M x h) (X : Lx h n L C V) (h0 : 0 < N) (hx : s.1 < 65536) (c : Core (sR (sI h 3 1 (nI s.1)) 7 s.2.1) g) : ∃ g', fX11_copyOnce g = some (if cpA h N M n L C V (cpx s.1) s.2.1 then 1 else 0, g') ∧ Core (sR (sI h 3 1 (nI (cpS h N M n L C V s).1)) 7 (cpS h N M n L C V s).2.1) g' := by
  have hN := H.N
  have hM := H.M97
  have hmp := nI_m hM.1 hM.2
  have hi : cpx s.1 % N < N := Nat.mod_lt _ h0
  have hx' := cpx_lt s.1
  have e31 : g.1 3 1 = nI s.1 := by rw [c.C 3 (by decide)]; rfl
  have e60 : g.1 6 0 = nI N := by rw [c.C 6 (by decide)]; exact H.sX
  have edr : ((25173 : Int32) * nI s.1 + 13849) &&& 65535 = nI (cpx s.1) := by
    rw [show (25173 : Int32) = nI 25173 from rfl, show (13849 : Int32) = nI 13849 from rfl, show (65535 : Int32) = nI (2 ^ 16 - 1) from rfl, nI_mul, nI_add, fa_mask]
    rfl
  unfold fX11_copyOnce fX9_drawNext
  dsimp only [letT]
  rw [e31, edr]
  have c1 : Core (sR (sI h 3 1 (nI (cpx s.1))) 7 s.2.1) (sI g 3 1 (nI (cpx s.1))) := by
    have k := coreCongI (a := 3) (j := 1) (v := nI (cpx s.1)) c (Or.inl rfl)
    rw [← sR_sI_comm (by decide), sI_sI] at k
    exact k
  have e31' : (sI g 3 1 (nI (cpx s.1))).1 3 1 = nI (cpx s.1) := by rw [sI_at, upd_at]
  have e60' : (sI g 3 1 (nI (cpx s.1))).1 6 0 = nI N := e60
  generalize sI g 3 1 (nI (cpx s.1)) = g1 at c1 e31' e60'
  rw [e60', if_pos (show (0 : Int32) < nI N from nI_lt (a := 0) h0 (by omega)), e31', jrem_nI (by omega) h0 (by omega)]
  have Xb : Lx (sR (sI h 3 1 (nI (cpx s.1))) 7 s.2.1) n L C V := X
  have Wb : WX N M (sR (sI h 3 1 (nI (cpx s.1))) 7 s.2.1) := H.WX
  obtain ⟨g2, e2, f2, q2⟩ := lookAt_w (cl := s.2.1 (cpx s.1 % N)) (he := 0) (i := cpx s.1 % N) (N := N) (M := M) c1 (by omega) H.sX H.eX
  obtain ⟨g3, e3, f3⟩ := amount_eq (l := 99) (m := 10) Xb (c1.tr f2.core) q2 (by decide) (by decide)
  have eff : ffc (sR (sI h 3 1 (nI (cpx s.1))) 7 s.2.1) N M (cpx s.1 % N) (s.2.1 (cpx s.1 % N)) 0 = ffc h N M (cpx s.1 % N) (s.2.1 (cpx s.1 % N)) 0 := rfl
  rw [eff] at e3
  have eam : fX11_amountAt 99 (nI (cpx s.1 % N)) 0 g1 = some (ama n L C V 99 10 (ffc h N M (cpx s.1 % N) (s.2.1 (cpx s.1 % N)) 0), g3) := by
    unfold fX11_amountAt fX9_claimOf
    dsimp only [letT]
    rw [at_in (show cpx s.1 % N < aln 7 by show _ < 20; omega), c1.C 7 (by decide), show (sR (sI h 3 1 (nI (cpx s.1))) 7 s.2.1).1 7 = s.2.1 from rfl, e2, if_neg (by decide), if_neg (by decide), e3, ob]
  have c3 := (c1.tr f2.core).tr f3.1.core
  have edm : jrem (nI (cpx s.1) / 32) 10 = nI (cpx s.1 / 32 % 10) := by
    rw [show (32 : Int32) = nI 32 from rfl, show (10 : Int32) = nI 10 from rfl, nI_div (by omega) (by decide) (by decide), jrem_nI (by omega) (by decide) (by decide)]
  rw [eam, ob, edm]
  dsimp only
  unfold cpS
  have ecp : cpA h N M n L C V (cpx s.1) s.2.1 = decide (nI (cpx s.1 / 32 % 10) < ama n L C V 99 10 (ffc h N M (cpx s.1 % N) (s.2.1 (cpx s.1 % N)) 0)) := rfl
  by_cases a : nI (cpx s.1 / 32 % 10) < ama n L C V 99 10 (ffc h N M (cpx s.1 % N) (s.2.1 (cpx s.1 % N)) 0)
  · have ea : cpA h N M n L C V (cpx s.1) s.2.1 = true := by rw [ecp]; exact decide_eq_true a
    rw [ea, if_pos a]
    have e30 : g3.1 3 0 = nI M := by rw [c3.C 3 (by decide)]; exact H.eX
    have e31 : g3.1 3 1 = nI (cpx s.1) := by rw [c3.C 3 (by decide)]; rfl
    have e7 : g3.1 7 = s.2.1 := by rw [c3.C 7 (by decide)]; rfl
    have emax : jmax 1 (nI M - 1) = nI (M - 1) := by
      rw [nI_sub1 (by omega)]
      unfold jmax
      by_cases q : 1 < M - 1
      · rw [if_pos (show (1 : Int32) < nI (M - 1) from nI_lt (a := 1) q (by omega))]
      · rw [if_neg (show ¬ (1 : Int32) < nI (M - 1) from nI_nlt (a := 1) (by omega) (by decide)), show M - 1 = 1 by omega]
        rfl
    have emod : fX9_modulo (fX9_claimOf (nI (cpx s.1 % N)) g3 + 1 + nI (cpx s.1 / 512 % (M - 1))) g3 = cpV M (cpx s.1) (s.2.1 (cpx s.1 % N)) := by
      unfold fX9_modulo fX9_claimOf cpV
      rw [e30, if_pos (show (0 : Int32) < nI M from nI_lt (a := 0) (by omega) (by omega)), at_in (show cpx s.1 % N < aln 7 by show _ < 20; omega), e7]
    rw [e30, emax, if_neg (show ¬ nI (M - 1) = 0 from ne_lit (j := 0) (by omega) (by decide) (by omega)), e31, show (512 : Int32) = nI 512 from rfl, nI_div (by omega) (by decide) (by decide), jrem_nI (by omega) (by omega) (by omega), emod, slipIn_eq (Wb.core c3) off7 (by decide) hi, ob, e7, mX_core c3]
    have emx : mX (sR (sI h 3 1 (nI (cpx s.1))) 7 s.2.1) = mX h := rfl
    rw [emx]
    have k := coreCong (a := 7) (r := slp (mX h) N (cpx s.1 % N) (cpV M (cpx s.1) (s.2.1 (cpx s.1 % N))) s.2.1) c3
    rw [sR_sR] at k
    simp only [if_true]
    exact ⟨_, rfl, k⟩
  · have ea : cpA h N M n L C V (cpx s.1) s.2.1 = false := by rw [ecp]; exact decide_eq_false a
    rw [ea, if_neg a]
    simp only [reduceCtorEq, if_false]
    exact ⟨g3, rfl, c3⟩
