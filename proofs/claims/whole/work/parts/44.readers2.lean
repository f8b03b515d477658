theorem readers20 {N M x n P : Nat} {h : AH} {L : Nat → Int32} {C V : Nat → Rw → Int32} {p2 : Int32} {K : AH → Option (Int32 × AH)} (H : ScN N M x h) (X : Lx h n L C V) : ∃ g, fX11_readers_l20 K (nI P) p2 fuel0 0 h = K g ∧ Core h g ∧ ∀ i, i < 10 → g.1 51 i = if bt (nI P) i then nI (bs (rds h N M n L C (nI i)) N) else 0 := by
  obtain ⟨g, e, q⟩ := for_ex (F := fun m xx g => fX11_readers_l20 K (nI P) p2 m xx g) K 10 (by decide) (fun k g => Core h g ∧ ∀ i, i < k → g.1 51 i = if bt (nI P) i then nI (bs (rds h N M n L C (nI i)) N) else 0) (fun m k g hk hI => by
      obtain ⟨cg, q⟩ := hI
      show ∃ s', fX11_readers_l20b (fX11_readers_l20 K (nI P) p2 m) K (nI P) p2 (nI k) g = _ ∧ _
      unfold fX11_readers_l20b
      obtain ⟨g1, e1, f1⟩ := linesReadBy_eq (he := nI k) H X cg
      have l51 : k < aln 51 := hk
      rw [if_pos (show nI k < 10 from nI_lt (b := 10) hk (by decide)), isIn_bt _ (show k < 32 by omega), e1, ob, nI_1]
      dsimp only [letT]
      rw [put_in l51, put_in l51]
      cases hb : bt (nI P) k with
      | false =>
        rw [if_pos ite_f0]
        refine ⟨_, rfl, cg.tr (Core.sR (a := 51) rfl), fun i hi => ?_⟩
        show upd (g.1 51) k 0 i = _
        by_cases ei : i = k
        · rw [ei, upd_at, hb]
          rfl
        · rw [upd_ne _ _ ei]
          exact q i (by omega)
      | true =>
        rw [if_neg ite_t0]
        refine ⟨_, rfl, (cg.tr f1.core).tr (Core.sR (a := 51) rfl), fun i hi => ?_⟩
        show upd (g1.1 51) k _ i = _
        by_cases ei : i = k
        · rw [ei, upd_at, hb]
          rfl
        · rw [upd_ne _ _ ei, f1.1 51 (by decide) (by decide) (by decide)]
          exact q i (by omega)) (fun m g hI => by
      show fX11_readers_l20b (fX11_readers_l20 K (nI P) p2 m) K (nI P) p2 (nI 10) g = _
      unfold fX11_readers_l20b
      rw [if_neg (by decide)]) fuel0 0 h (by omega) (by have := fuel_big; omega) ⟨.rf, fun i hi => absurd hi (Nat.not_lt_zero _)⟩
  exact ⟨g, e, q⟩
theorem readers24 {N M x n P : Nat} {h h1 : AH} {L : Nat → Int32} {C V : Nat → Rw → Int32} {p2 : Int32} {K : AH → Option (Int32 × AH)} (H : ScN N M x h) (X : Lx h n L C V) (c1 : Core h h1) : ∃ g, fX12_readers_l24 K (nI P) p2 fuel0 0 h1 = K g ∧ Core h1 g ∧ ∀ i, i < 10 → g.1 104 i = nI (bs (rds h N M n L C (nI i)) N) := by
  obtain ⟨g, e, q⟩ := for_ex (F := fun m xx g => fX12_readers_l24 K (nI P) p2 m xx g) K 10 (by decide) (fun k g => Core h1 g ∧ ∀ i, i < k → g.1 104 i = nI (bs (rds h N M n L C (nI i)) N)) (fun m k g hk hI => by
      obtain ⟨cg, q⟩ := hI
      show ∃ s', fX12_readers_l24b (fX12_readers_l24 K (nI P) p2 m) K (nI P) p2 (nI k) g = _ ∧ _
      unfold fX12_readers_l24b
      obtain ⟨g1, e1, f1⟩ := readBy_eq (he := nI k) H X (c1.tr cg)
      rw [if_pos (show nI k < 10 from nI_lt (b := 10) hk (by decide)), e1, ob, if_neg (gd hk (by decide)), nI_clamp (by omega), nI_1]
      dsimp only [letT]
      refine ⟨_, rfl, (cg.tr f1.core).tr (Core.sR (a := 104) rfl), fun i hi => ?_⟩
      show upd (g1.1 104) k _ i = _
      by_cases ei : i = k
      · rw [ei, upd_at]
      · rw [upd_ne _ _ ei, f1 104 (by decide) (by decide) (by decide)]
        exact q i (by omega)) (fun m g hI => by
      show fX12_readers_l24b (fX12_readers_l24 K (nI P) p2 m) K (nI P) p2 (nI 10) g = _
      unfold fX12_readers_l24b
      rw [if_neg (by decide)]) fuel0 0 h1 (by omega) (by have := fuel_big; omega) ⟨.rf, fun i hi => absurd hi (Nat.not_lt_zero _)⟩
  exact ⟨g, e, q⟩
theorem st_readers (p q : Int32) {h : AH} (I : Inv h) : St (xo_readers p q) (mo_readers p q) h := by
  obtain ⟨⟨N, M, x, H⟩, -, -, n, hL⟩ := id I
  obtain ⟨L, C, V, X⟩ := hL.x
  by_cases bad : p < 0 ∨ (1023 : Int32) < p
  · refine St.ro (r := -1) I ?_ .rf ?_ .rf
    · unfold xo_readers fX11_readers
      rw [areHearers_no bad, if_pos rfl]
    · unfold mo_readers fX12_readers
      rw [in_no bad, if_pos rfl]
  have c1 : ¬ p < 0 := fun a => bad (Or.inl a)
  have c2 : ¬ (1023 : Int32) < p := fun a => bad (Or.inr a)
  by_cases c3 : q < 0
  · refine St.ro (r := -1) I ?_ .rf ?_ .rf
    · unfold xo_readers fX11_readers
      rw [areHearers_yes c1 c2, if_neg (by decide), if_pos c3]
    · unfold mo_readers fX12_readers
      rw [in_yes c1 c2, if_neg (by decide), in_no (Or.inl c3), if_pos rfl]
  by_cases c4 : (1 : Int32) < q
  · refine St.ro (r := -1) I ?_ .rf ?_ .rf
    · unfold xo_readers fX11_readers
      rw [areHearers_yes c1 c2, if_neg (by decide), if_neg c3, if_pos c4]
    · unfold mo_readers fX12_readers
      rw [in_yes c1 c2, if_neg (by decide), in_no (Or.inr c4), if_pos rfl]
  obtain ⟨P, hP0, rfl⟩ := nI_of c1
  have hP : P < 1024 := by
    by_cases a : P < 1024
    · exact a
    · exact absurd (nI_lt (a := 1023) (b := P) (by omega) hP0) c2
  let R : Nat → Int32 := fun i => nI (bs (rds h N M n L C (nI i)) N)
  let R' : Nat → Int32 := fun i => if bt (nI P) i then nI (bs (rds h N M n L C (nI i)) N) else 0
  have eT : rbest P (fun s => decide (tog R' (nI s) = jshl 1 (nI N) - 1)) (P + 1) = rbest P (fun s => decide (tog R (nI s) = jshl 1 (nI N) - 1)) 1024 := by
    rw [rbest_all (k := 1024) (by omega) (by decide)]
    refine rbest_cong (fun s hs hsub => ?_)
    rw [sbs_iff] at hsub
    have : tog R' (nI s) = tog R (nI s) := tog_cong (fun i hi hb => by
      show (if bt (nI P) i then _ else _) = _
      rw [bt_nI (by omega)] at hb ⊢
      rw [hsub i (by omega) hb]
      rfl)
    rw [this]
  let o := rbest P (fun s => decide (tog R (nI s) = jshl 1 (nI N) - 1)) 1024
  have eo : rbest P (fun s => decide (tog R (nI s) = jshl 1 (nI N) - 1)) 1024 = o := rfl
  have olt : ∀ b, o = some b → b < 1024 := fun b hb => rbest_lt hb
  rw [eo] at eT
  obtain ⟨g1, e1, d1, q1⟩ := readers20 (P := P) (p2 := q) (K := fun (g10 : AH) => fX11_readers_l67 (fun (y18 : Int32) (y19 : Int32) => if y18 < 0 then some (y18, g10) else if q = 0 then some (y19, g10) else some (y18, g10)) (nI P) q g10 fuel0 (-2 : Int32) (11 : Int32) (0 : Int32)) H X
  obtain ⟨g2, e2, d2, q2⟩ := readers24 (P := P) (p2 := q) (K := fun (g8 : AH) => fX12_readers_l52 (fun (y21 : Int32) => if y21 = (-1 : Int32) then some ((-2 : Int32), g8) else if q = 0 then (fX12_bits y21 g8).bind (fun b24 => some (b24, g8)) else some (y21, g8)) (nI P) q g8 fuel0 (-1 : Int32) (0 : Int32)) H X d1
  refine St.ro (r := o.elim (-2) (fun b => if q = 0 then nI (pop b) else nI b)) I ?_ d1 ?_ d2
  · unfold xo_readers fX11_readers
    rw [areHearers_yes c1 c2, if_neg (by decide), if_neg c3, if_neg c4]
    refine e1.trans ?_
    rw [readers67 (R := R') H d1 hP q1, eT]
    cases ho : o with
    | none => rw [if_pos (show (none : Option Nat).elim (-2 : Int32) nI < 0 by decide)]; rfl
    | some b =>
      have := olt b ho
      rw [if_neg (show ¬ (some b).elim (-2 : Int32) nI < 0 from nI_pos (by omega))]
      dsimp only [Option.elim]
      split <;> rfl
  · unfold mo_readers fX12_readers
    rw [in_yes c1 c2, if_neg (by decide), in_yes c3 c4, if_neg (by decide)]
    refine e2.trans ?_
    rw [readers52 (R := R) H (d1.tr d2) hP q2, eo]
    cases ho : o with
    | none => rw [if_pos (show (none : Option Nat).elim (-1 : Int32) nI = -1 from rfl)]; rfl
    | some b =>
      have := olt b ho
      rw [if_neg (show ¬ (some b).elim (-1 : Int32) nI = -1 from fun q => nI_pos (n := b) (by omega) (by rw [show (some b).elim (-1 : Int32) nI = nI b from rfl] at q; rw [q]; decide))]
      dsimp only [Option.elim]
      rw [bits_eq, ob]
      split <;> rfl
