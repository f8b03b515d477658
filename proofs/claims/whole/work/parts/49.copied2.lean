def cpI (h : AH) (N M n : Nat) (L : Nat → Int32) (C V : Nat → Rw → Int32) (x k : Nat) : Nat × Rw × Nat := itf (fun _ s => cpS h N M n L C V s) 0 k (x, h.1 7, 0)
theorem cpI_succ {h : AH} {N M n : Nat} {L : Nat → Int32} {C V : Nat → Rw → Int32} {x k : Nat} : cpI h N M n L C V x (k + 1) = cpS h N M n L C V (cpI h N M n L C V x k) := by
  unfold cpI
  rw [itf_last]
theorem cpS_1 {h : AH} {N M n : Nat} {L : Nat → Int32} {C V : Nat → Rw → Int32} {s : Nat × Rw × Nat} : (cpS h N M n L C V s).1 = cpx s.1 := by
  unfold cpS
  split <;> rfl
theorem cpS_3 {h : AH} {N M n : Nat} {L : Nat → Int32} {C V : Nat → Rw → Int32} {s : Nat × Rw × Nat} : (cpS h N M n L C V s).2.2 = s.2.2 + (cpA h N M n L C V (cpx s.1) s.2.1).toNat := by
  unfold cpS
  cases cpA h N M n L C V (cpx s.1) s.2.1 <;> rfl
theorem cpI_lt {h : AH} {N M n : Nat} {L : Nat → Int32} {C V : Nat → Rw → Int32} {x k : Nat} (hx : x < 65536) : (cpI h N M n L C V x k).1 < 65536 := by
  cases k with
  | zero => exact hx
  | succ k => rw [cpI_succ, cpS_1]; exact cpx_lt _
theorem cpI_cl {N M x n k : Nat} {h : AH} {L : Nat → Int32} {C V : Nat → Rw → Int32} (H : ScN N M x h) (h0 : 0 < N) : Cl N M (cpI h N M n L C V x k).2.1 := by
  induction k with
  | zero => exact H.Cl
  | succ k ih => rw [cpI_succ]; exact cpS_cl H h0 ih
theorem copiedX {N M x n k : Nat} {h : AH} {L : Nat → Int32} {C V : Nat → Rw → Int32} (H : ScN N M x h) (X : Lx h n L C V) (h0 : 0 < N) (k1 : 1 ≤ k) (k20 : k ≤ 20) : ∃ h1, xo_copied (nI k) h = some (nI (cpI h N M n L C V x k).2.2, h1) ∧ Core (sR (sI h 3 1 (nI (cpI h N M n L C V x k).1)) 7 (cpI h N M n L C V x k).2.1) h1 := by
  have hN := H.N
  have hx : x < 65536 := H.2.2.2.2.2.1
  have ex : h.1 3 1 = nI x := H.2.2.2.1
  unfold xo_copied fX11_copied
  rw [if_neg (show ¬ nI k < 1 from nI_nlt (b := 1) k1 (by omega)), if_neg (show ¬ (20 : Int32) < nI k from nI_nlt (a := 20) (by omega) (by decide)), H.sX, if_neg (show ¬ nI N = 0 from ne_lit (j := 0) (by omega) (by decide) (by omega))]
  obtain ⟨s, e, e1, c⟩ := for_ex (F := fun m xx (s : Int32 × AH) => fX11_copied_l30 (nI k) m s.1 xx s.2) (fun s => some (s.1, s.2)) k (by omega) (fun j s => s.1 = nI (cpI h N M n L C V x j).2.2 ∧ Core (sR (sI h 3 1 (nI (cpI h N M n L C V x j).1)) 7 (cpI h N M n L C V x j).2.1) s.2) (fun m j s hj hI => by
      obtain ⟨a, g⟩ := s
      obtain ⟨ea, cg⟩ := hI
      dsimp only at ea cg
      show ∃ s', fX11_copied_l30b (fX11_copied_l30 (nI k) m) (nI k) a (nI j) g = _ ∧ _
      unfold fX11_copied_l30b
      obtain ⟨g', e', c'⟩ := copyOnce_eq (s := cpI h N M n L C V x j) H X h0 (cpI_lt hx) cg
      rw [if_pos (nI_lt hj (by omega)), e', ob, nI_1, cpI_succ, cpS_3]
      dsimp only [letT]
      cases hb : cpA h N M n L C V (cpx (cpI h N M n L C V x j).1) (cpI h N M n L C V x j).2.1 with
      | false =>
        rw [if_pos ite_f0]
        refine ⟨(a + 0, g'), rfl, ?_, c'⟩
        show a + 0 = _
        rw [Int32.add_zero, ea]
        rfl
      | true =>
        rw [if_neg ite_t0]
        refine ⟨(a + 1, g'), rfl, ?_, c'⟩
        show a + 1 = _
        rw [ea]
        exact nI_1 _) (fun m s hI => by
      show fX11_copied_l30b (fX11_copied_l30 (nI k) m) (nI k) s.1 (nI k) s.2 = _
      unfold fX11_copied_l30b
      rw [if_neg (nI_nlt (Nat.le_refl _) (by omega))]) fuel0 0 (0, h) (by omega) (by have := fuel_big; omega) ⟨rfl, by
        show Core (sR (sI h 3 1 (nI x)) 7 (h.1 7)) h
        rw [sI_same ex, sR_self]
        exact .rf⟩
  refine ⟨s.2, Eq.trans e ?_, c⟩
  rw [e1]
theorem copiedM {N M x n k : Nat} {h h1 : AH} {xn : Int32} {Cn : Rw} {L : Nat → Int32} {C V : Nat → Rw → Int32} (H : ScN N M x h) (X : Lx h n L C V) (h0 : 0 < N) (k1 : 1 ≤ k) (k20 : k ≤ 20) (c1 : Core (sR (sI h 3 1 xn) 7 Cn) h1) : ∃ h2 R, mo_copied (nI k) h1 = some (nI (cpI h N M n L C V x k).2.2, h2) ∧ eqOn N (cpI h N M n L C V x k).2.1 R ∧ Core (sR (sI h1 75 1 (nI (cpI h N M n L C V x k).1)) 77 R) h2 := by
  have hN := H.N
  have hM := H.M97
  have hmp := nI_m hM.1 hM.2
  have hx : x < 65536 := H.2.2.2.2.2.1
  have W1 : WM N M h1 := WM.core c1 (show WM N M (sR (sI h 3 1 xn) 7 Cn) from H.WM)
  have X1 : Lx h1 n L C V := Lx.core c1 (show Lx (sR (sI h 3 1 xn) 7 Cn) n L C V from X)
  have m1 : mM h1 = mM h := (mM_core c1).trans rfl
  have ex : h1.1 75 1 = nI x := by rw [c1.P 75 1 (by decide)]; exact H.2.2.2.2.1
  have e0 : h1.1 75 0 = nI M := by rw [c1.P 75 0 (by decide)]; exact H.eM
  have e2 : h1.1 75 2 = nI N := by rw [c1.P 75 2 (by decide)]; exact H.sM
  have r77 : h1.1 77 = h.1 77 := by rw [c1.C 77 (by decide)]; rfl
  have r78 : h1.1 78 = h.1 78 := by rw [c1.C 78 (by decide)]; rfl
  have r79 : h1.1 79 = h.1 79 := by rw [c1.C 79 (by decide)]; rfl
  have r80 : h1.1 80 = h.1 80 := by rw [c1.C 80 (by decide)]; rfl
  clear c1
  unfold mo_copied fX12_copied
  rw [in_yes (show ¬ nI k < 1 from nI_nlt (b := 1) k1 (by omega)) (show ¬ (20 : Int32) < nI k from nI_nlt (a := 20) (by omega) (by decide)), if_neg (by decide), e2, if_neg (show ¬ nI N = 0 from ne_lit (j := 0) (by omega) (by decide) (by omega))]
  obtain ⟨s, e, e1, R, eR, c⟩ := for_ex (F := fun m xx (s : Int32 × AH) => fX12_copied_l23 (nI k) m s.1 xx s.2) (fun s => some (s.1, s.2)) k (by omega) (fun j s => s.1 = nI (cpI h N M n L C V x j).2.2 ∧ ∃ R, eqOn N (cpI h N M n L C V x j).2.1 R ∧ Core (sR (sI h1 75 1 (nI (cpI h N M n L C V x j).1)) 77 R) s.2) (fun m j s hj hI => by
      obtain ⟨a, g⟩ := s
      obtain ⟨ea, R, eR, cg⟩ := hI
      dsimp only at ea cg
      have hxj := cpI_lt (h := h) (N := N) (M := M) (n := n) (L := L) (C := C) (V := V) (k := j) hx
      rw [cpI_succ, cpS_3]
      generalize hs : cpI h N M n L C V x j = s at ea eR cg hxj
      have hy := cpx_lt s.1
      have hi : cpx s.1 % N < N := Nat.mod_lt _ h0
      have gi := gd (show cpx s.1 % N < 20 by omega) (by decide)
      show ∃ s', fX12_copied_l23b (fX12_copied_l23 (nI k) m) (nI k) a (nI j) g = _ ∧ _
      unfold fX12_copied_l23b
      have e751 : g.1 75 1 = nI s.1 := by rw [cg.P 75 1 (by decide)]; rfl
      have edr : jrem ((25173 : Int32) * nI s.1 + 13849) 65536 = nI (cpx s.1) := by
        rw [show (25173 : Int32) = nI 25173 from rfl, show (13849 : Int32) = nI 13849 from rfl, show (65536 : Int32) = nI 65536 from rfl, nI_mul, nI_add, jrem_nI (by omega) (by decide) (by decide)]
        rfl
      rw [if_pos (nI_lt hj (by omega)), e751, edr]
      dsimp only [letT]
      have c4 : Core (sR (sI h1 75 1 (nI (cpx s.1))) 77 R) (sI g 75 1 (nI (cpx s.1))) := by
        have k := coreCongI (a := 75) (j := 1) (v := nI (cpx s.1)) cg (Or.inr rfl)
        rw [← sR_sI_comm (by decide), sI_sI] at k
        exact k
      have e751' : (sI g 75 1 (nI (cpx s.1))).1 75 1 = nI (cpx s.1) := by rw [sI_at, upd_at]
      generalize sI g 75 1 (nI (cpx s.1)) = g4 at c4 e751'
      have hb4 : ∃ b, b = sR (sI h1 75 1 (nI (cpx s.1))) 77 R := ⟨_, rfl⟩
      obtain ⟨b, eb⟩ := hb4
      have Wb : WM N M b := by rw [eb]; exact W1
      have Xb : Lx b n L C V := by rw [eb]; exact X1
      have mb : mM b = mM h := by rw [eb]; exact m1
      have b752 : b.1 75 2 = nI N := by rw [eb]; exact e2
      have b750 : b.1 75 0 = nI M := by rw [eb]; exact e0
      have b751 : b.1 75 1 = nI (cpx s.1) := by rw [eb]; rfl
      have b77 : b.1 77 = R := by rw [eb]; rfl
      have b78 : b.1 78 = h.1 78 := by rw [eb]; exact r78
      have b79 : b.1 79 = h.1 79 := by rw [eb]; exact r79
      have b80 : b.1 80 = h.1 80 := by rw [eb]; exact r80
      have eR' : eqOn N R s.2.1 := eR.sy
      rw [← eb] at c4
      have ei : jrem (nI (cpx s.1)) (nI N) = nI (cpx s.1 % N) := jrem_nI (by omega) h0 (by omega)
      rw [c4.P 75 2 (by decide), b752, if_neg (show ¬ nI N = 0 from ne_lit (j := 0) (by omega) (by decide) (by omega)), e751', ei, if_neg gi, nI_clamp (by omega), c4.C 77 (by decide), b77, eR' _ hi]
      obtain ⟨g5, e5, f5, q5⟩ := feels_w (cl := s.2.1 (cpx s.1 % N)) (he := 0) H (Wb.core c4) (by rw [c4.C 78 (by decide), b78]) (by rw [c4.C 79 (by decide), b79]) (by rw [c4.C 80 (by decide), b80]) (by rw [c4.P 75 0 (by decide), b750]) hi
      have c5 := c4.tr f5.core
      obtain ⟨g6, e6, f6⟩ := byLaw_eq (l := 99) (m := 10) Xb c5 q5 (by decide)
      have c6 := c5.tr f6.1.core
      have edm : jrem (nI (cpx s.1) / 32) 10 = nI (cpx s.1 / 32 % 10) := by
        rw [show (32 : Int32) = nI 32 from rfl, show (10 : Int32) = nI 10 from rfl, nI_div (by omega) (by decide) (by decide), jrem_nI (by omega) (by decide) (by decide)]
      rw [e5, ob, e6, ob, c5.P 75 1 (by decide), b751, edm, nI_1]
      dsimp only
      have ecp : cpA h N M n L C V (cpx s.1) s.2.1 = decide (nI (cpx s.1 / 32 % 10) < ama n L C V 99 10 (ffc h N M (cpx s.1 % N) (s.2.1 (cpx s.1 % N)) 0)) := rfl
      rw [cpS_1]
      unfold cpS
      by_cases lt : nI (cpx s.1 / 32 % 10) < ama n L C V 99 10 (ffc h N M (cpx s.1 % N) (s.2.1 (cpx s.1 % N)) 0)
      · have eca : cpA h N M n L C V (cpx s.1) s.2.1 = true := by rw [ecp]; exact decide_eq_true lt
        have ev : jrem (s.2.1 (cpx s.1 % N) + 1 + nI (cpx s.1 / 512 % (M - 1))) (nI M) = cpV M (cpx s.1) (s.2.1 (cpx s.1 % N)) := rfl
        rw [eca, if_pos lt, c6.P 75 0 (by decide), b750, nI_sub1 (by omega), if_neg (show ¬ nI (M - 1) = 0 from ne_lit (j := 0) (by omega) (by decide) (by omega)), if_neg hmp.2, c6.P 75 1 (by decide), b751, show (512 : Int32) = nI 512 from rfl, nI_div (by omega) (by decide) (by decide), jrem_nI (by omega) (by omega) (by omega), c6.C 77 (by decide), b77, eR' _ hi, ev]
        obtain ⟨r7, s7, e7, q7⟩ := works_eq (v := cpV M (cpx s.1) (s.2.1 (cpx s.1 % N))) (Wb.core c6) hi
        rw [e7, ob]
        rw [mM_core c6, mb, c6.C 77 (by decide), b77] at q7
        have gi' : ¬ (nI (cpx s.1 % N) < 0 ∨ 20 ≤ cpx s.1 % N) := fun q => q.elim (nI_pos (by omega)) (fun q => by omega)
        rw [if_neg gi']
        simp only [if_true]
        clear edm ei edr e7
        generalize cpV M (cpx s.1) (s.2.1 (cpx s.1 % N)) = vv at q7
        refine ⟨(a + 1, sR (sR g6 88 r7) 77 s7), ?_, ?_, s7, ?_, ?_⟩
        · rfl
        · show a + 1 = _
          rw [ea]
          exact nI_1 _
        · exact (H.slpE hi eR).tr q7.sy
        · have k := coreCong (a := 77) (r := s7) (c6.tr (Core.sR (a := 88) (r := r7) rfl))
          rw [eb, sR_sR] at k
          exact k
      · have eca : cpA h N M n L C V (cpx s.1) s.2.1 = false := by rw [ecp]; exact decide_eq_false lt
        rw [eca, if_neg lt]
        simp only [reduceCtorEq, if_false]
        refine ⟨(a, g6), rfl, ?_, R, eR, ?_⟩
        · rw [ea]
          rfl
        · rw [← eb]
          exact c6) (fun m s hI => by
      show fX12_copied_l23b (fX12_copied_l23 (nI k) m) (nI k) s.1 (nI k) s.2 = _
      unfold fX12_copied_l23b
      rw [if_neg (nI_nlt (Nat.le_refl _) (by omega))]) fuel0 0 (0, h1) (by omega) (by have := fuel_big; omega) ⟨rfl, h1.1 77, by rw [r77]; exact H.C, by
        show Core (sR (sI h1 75 1 (nI x)) 77 (h1.1 77)) h1
        rw [sI_same ex, sR_self]
        exact .rf⟩
  refine ⟨s.2, R, Eq.trans e ?_, eR, c⟩
  rw [e1]
theorem st_copied (p : Int32) {h : AH} (I : Inv h) : St (xo_copied p) (mo_copied p) h := by
  obtain ⟨⟨N, M, x, H⟩, hk, ⟨T0, hT⟩, n, hL⟩ := id I
  obtain ⟨L, C, V, X⟩ := hL.x
  have hN := H.N
  by_cases bad : p < 1 ∨ (20 : Int32) < p
  · refine St.ro (r := -1) I ?_ .rf ?_ .rf
    · unfold xo_copied fX11_copied
      by_cases a : p < 1
      · rw [if_pos a]
      · rw [if_neg a, if_pos (bad.resolve_left a)]
    · unfold mo_copied fX12_copied
      rw [in_no bad, if_pos rfl]
  have c1 : ¬ p < 1 := fun a => bad (Or.inl a)
  have c2 : ¬ (20 : Int32) < p := fun a => bad (Or.inr a)
  by_cases c5 : N = 0
  · refine St.ro (r := -1) I ?_ .rf ?_ .rf
    · unfold xo_copied fX11_copied
      rw [if_neg c1, if_neg c2, H.sX, if_pos (by rw [c5]; rfl)]
    · unfold mo_copied fX12_copied
      rw [in_yes c1 c2, if_neg (by decide), H.sM, if_pos (by rw [c5]; rfl)]
  have p0 : ¬ p < 0 := fun a => c1 (Int32.lt_trans a (by decide))
  obtain ⟨k, hk0, rfl⟩ := nI_of p0
  have k20 : k ≤ 20 := by
    by_cases a : k ≤ 20
    · exact a
    · exact absurd (nI_lt (a := 20) (b := k) (by omega) hk0) c2
  have k1 : 1 ≤ k := by
    by_cases a : 1 ≤ k
    · exact a
    · exact absurd (nI_lt (a := k) (b := 1) (by omega) (by decide)) c1
  obtain ⟨h1, e1, d1⟩ := copiedX H X (by omega) k1 k20
  obtain ⟨h2, R, e2, eR, d2⟩ := copiedM H X (by omega) k1 k20 d1
  refine ⟨_, h1, h2, e1, e2, ?_⟩
  have hx : x < 65536 := H.2.2.2.2.2.1
  have hlt := cpI_lt (h := h) (N := N) (M := M) (n := n) (L := L) (C := C) (V := V) (k := k) hx
  have hcl := cpI_cl (n := n) (L := L) (C := C) (V := V) (k := k) H (by omega)
  generalize cpI h N M n L C V x k = s at d1 d2 eR hlt hcl
  have Z : Inv (sR (sI (sR (sI h 3 1 (nI s.1)) 7 s.2.1) 75 1 (nI s.1)) 77 R) := by
    obtain ⟨a1, a2, a3, a4, a5, a6, a7, a8, a9, a10, a11, a12, a13, a14, a15⟩ := H
    exact ⟨⟨N, M, s.1, a1, a2, a3, rfl, rfl, hlt, a7, a8, a9, a10, a11, eR, hcl, a14, a15⟩, hk, ⟨T0, hT⟩, n, hL⟩
  refine Z.core ?_
  exact (coreCong (coreCongI d1 (Or.inr rfl))).tr d2
