/-! ===== stands, line, count ===== -/
theorem what_cases {k : Nat} (hk : k < 2 ^ 31) (p : Int32) : (∃ i, i ≤ k ∧ p = nI i) ∨ (p < 0 ∨ (¬ p < 0 ∧ nI k < p)) := by
  by_cases h0 : p < 0
  · exact Or.inr (Or.inl h0)
  · obtain ⟨j, hj, rfl⟩ := nI_of h0
    by_cases h1 : j ≤ k
    · exact Or.inl ⟨j, h1, rfl⟩
    · exact Or.inr (Or.inr ⟨h0, nI_lt (by omega) hj⟩)
theorem needsOf_eq {N M i : Nat} {h : AH} (w : WM N M h) (hi : i < N) : fX12_needsOf (nI i) h = some (nI (bs (fun k => (stn (hbM h) k (fun j => bt 0 j) N).testBit i) i)) := by
  have hN := w.N
  unfold fX12_needsOf
  have key := for_up0 (F := fun m x t => fX12_needsOf_l4 (nI i) h m (nI t) x) (fun k t => if (stn (hbM h) k (fun j => bt 0 j) N).testBit i then t ||| 2 ^ k else t) (fun t => some (nI t)) i (by omega) (fun m k t hk => by
      show fX12_needsOf_l4b (fX12_needsOf_l4 (nI i) h m) (nI i) h (nI t) (nI k) = _
      unfold fX12_needsOf_l4b
      have hlt : stn (hbM h) k (fun j => bt 0 j) N < 2 ^ 31 := Nat.lt_trans (stn_lt N) (Nat.pow_lt_pow_right (by decide) (by omega))
      rw [if_pos (nI_lt hk (by omega)), standOn_eq w (by omega), ob, has_bt _ (by omega), bt_nI (by omega), nI_1, or_bit (by omega)]
      dsimp only [letT]
      cases hb : (stn (hbM h) k (fun j => bt 0 j) N).testBit i <;> simp) (fun m t => by
      show fX12_needsOf_l4b (fX12_needsOf_l4 (nI i) h m) (nI i) h (nI t) (nI i) = _
      unfold fX12_needsOf_l4b
      rw [if_neg (nI_nlt (Nat.le_refl _) (by omega))]) fuel0 0 0 (by omega) (by have := fuel_big; omega)
  rw [Nat.sub_zero, bs_itf] at key
  exact key
theorem ScN.stnE {N M x : Nat} {h : AH} (H : ScN N M x h) (i : Nat) : stn (hbM h) i (fun j => bt 0 j) N = stn (hbX h) i (fun _ => false) N := stn_cong (fun j hj => ⟨fun k => (H.hb hj k).symm, b_0 j⟩)
theorem st_stands (p q : Int32) {h : AH} (I : Inv h) : St (xo_stands p q) (mo_stands p q) h := by
  obtain ⟨⟨N, M, x, H⟩, -⟩ := id I
  have hN := H.N
  rcases pl_cases (N := N) (by omega) p with ⟨i, hi, rfl⟩ | hp
  · rcases what_cases (k := 1) (by decide) q with ⟨k, hk, rfl⟩ | hq
    · have hin : fX12_in (nI k) 0 1 h = 1 := in_yes (nI_pos (by omega)) (show ¬ nI 1 < nI k from nI_nlt (by omega) (by omega))
      by_cases k0 : k = 0
      · subst k0
        refine St.ro (r := nI (bs (fun j => decide (i < j) && bt (h.1 13 j) i) N)) I ?_ .rf ?_ .rf
        · unfold xo_stands fX11_stands
          rw [holds_in H.sX hN hi, if_neg (by decide), if_neg (by decide), if_neg (by decide), if_pos (show nI 0 = 0 from rfl), standingOn_eq H.WX hi]
          rfl
        · unfold mo_stands fX12_stands
          rw [isLine_in H.sM hN hi, hin, if_neg (by decide), if_neg (by decide), if_pos (show nI 0 = 0 from rfl), standOn_eq H.WM hi, ob]
          have e : stn (hbM h) i (fun j => bt 0 j) N = bs (fun j => decide (i < j) && bt (h.1 13 j) i) N := by
            rw [H.stnE]
            apply Nat.eq_of_testBit_eq
            intro j
            rw [bs_bit]
            by_cases hj : j < N
            · rw [needs_bit H hj hi]
              by_cases c : i < j
              · simp [hj, c]
              · simp only [hj, c, decide_true, decide_false, Bool.false_and, Bool.and_false]
                rw [stn_bit hj]
                simp [c]
            · simp only [hj, decide_false, Bool.false_and]
              exact Nat.testBit_lt_two_pow (Nat.lt_of_lt_of_le (stn_lt N) (Nat.pow_le_pow_right (by decide) (by omega)))
          rw [← e]
          rfl
      · have k1 : k = 1 := by omega
        subst k1
        refine St.ro (r := h.1 13 i) I ?_ .rf ?_ .rf
        · unfold xo_stands fX11_stands
          rw [holds_in H.sX hN hi, if_neg (by decide), if_neg (by decide), if_neg (by decide), if_neg (by decide), at_in (show i < aln 13 by show i < 20; omega)]
          rfl
        · unfold mo_stands fX12_stands
          rw [isLine_in H.sM hN hi, hin, if_neg (by decide), if_neg (by decide), if_neg (by decide), needsOf_eq H.WM hi, ob]
          obtain ⟨-, -, -, -, s, hs, es⟩ := H.2.2.2.2.2.2.2.2.2.2.2.2.2.1 i hi
          have e : bs (fun k => (stn (hbM h) k (fun j => bt 0 j) N).testBit i) i = s := by
            apply Nat.eq_of_testBit_eq
            intro k
            rw [bs_bit]
            by_cases hk : k < i
            · rw [H.stnE, ← needs_bit H hi (by omega), es, bt_nI (by omega)]
              simp [hk]
            · simp only [hk, decide_false, Bool.false_and]
              exact (Nat.testBit_lt_two_pow (Nat.lt_of_lt_of_le hs (Nat.pow_le_pow_right (by decide) (by omega)))).symm
          rw [e, es]
          rfl
    · refine St.ro (r := -1) I ?_ .rf ?_ .rf
      · unfold xo_stands fX11_stands
        rw [holds_in H.sX hN hi, if_neg (by decide)]
        rcases hq with h1 | ⟨h1, h2⟩
        · rw [if_pos h1]; rfl
        · rw [if_neg h1, if_pos (show (1 : Int32) < q from h2)]; rfl
      · unfold mo_stands fX12_stands
        rw [isLine_in H.sM hN hi, in_no (p := q) (a := 0) (b := 1) (hq.imp id (fun z => z.2)), if_neg (by decide), if_pos rfl]
        rfl
  · refine St.ro (r := -1) I ?_ .rf ?_ .rf
    · unfold xo_stands fX11_stands
      rw [holds_out H.sX hp, if_pos rfl]
      rfl
    · unfold mo_stands fX12_stands
      rw [isLine_out H.sM hp, if_pos rfl]
      rfl
/-- the model's line, once its truth lies -/
theorem ne_lit {k j : Nat} (hk : k < 2 ^ 31) (hj : j < 2 ^ 31) (h : k ≠ j) : ¬ nI k = nI j := fun q => h ((nI_eq hk hj).mp q)
theorem lineX {N M x i : Nat} {h : AH} (H : ScN N M x h) (hi : i < N) (q : Int32) : ∃ r h1, xo_line (nI i) q h = some (r, h1) ∧ Core h h1 ∧ r = (if q = 0 then h.1 7 i else if q = 1 then h.1 8 i else if q = 2 then h.1 9 i else if q = 3 then h.1 10 i else if q = 4 then wk (mX h) 0 N (h.1 49) i else if q = 5 then mX h (h.1 7) i else if q = 6 then h.1 11 i else if q = 7 then h.1 12 i else if q = 8 then (if wrX h i then 1 else 0) else -1) := by
  have hN := H.N
  have i20 : i < 20 := by omega
  unfold xo_line fX11_line fX9_claimOf
  rw [holds_in H.sX hN hi, if_neg (by decide), at_in (show i < aln 7 from i20), at_in (show i < aln 8 from i20), at_in (show i < aln 9 from i20), at_in (show i < aln 10 from i20), at_in (show i < aln 11 from i20), at_in (show i < aln 12 from i20), made_eq H.WX hi (by decide), isWrongX_eq H.WX hi, truth_eq H.WX off49 (by decide), ob, at_in (show i < aln 49 from i20), sR_at]
  by_cases c0 : q = 0
  · rw [if_pos c0, if_pos c0]; exact ⟨_, _, rfl, .rf, rfl⟩
  rw [if_neg c0, if_neg c0]
  by_cases c1 : q = 1
  · rw [if_pos c1, if_pos c1]; exact ⟨_, _, rfl, .rf, rfl⟩
  rw [if_neg c1, if_neg c1]
  by_cases c2 : q = 2
  · rw [if_pos c2, if_pos c2]; exact ⟨_, _, rfl, .rf, rfl⟩
  rw [if_neg c2, if_neg c2]
  by_cases c3 : q = 3
  · rw [if_pos c3, if_pos c3]; exact ⟨_, _, rfl, .rf, rfl⟩
  rw [if_neg c3, if_neg c3]
  by_cases c4 : q = 4
  · rw [if_pos c4, if_pos c4]; exact ⟨_, _, rfl, Core.sR rfl, rfl⟩
  rw [if_neg c4, if_neg c4]
  by_cases c5 : q = 5
  · rw [if_pos c5, if_pos c5]; exact ⟨_, _, rfl, .rf, rfl⟩
  rw [if_neg c5, if_neg c5]
  by_cases c6 : q = 6
  · rw [if_pos c6, if_pos c6]; exact ⟨_, _, rfl, .rf, rfl⟩
  rw [if_neg c6, if_neg c6]
  by_cases c7 : q = 7
  · rw [if_pos c7, if_pos c7]; exact ⟨_, _, rfl, .rf, rfl⟩
  rw [if_neg c7, if_neg c7]
  by_cases c8 : q = 8
  · rw [if_pos c8, if_pos c8]
    cases wrX h i
    · exact ⟨_, _, rfl, .rf, rfl⟩
    · exact ⟨_, _, rfl, .rf, rfl⟩
  · rw [if_neg c8, if_neg c8]; exact ⟨_, _, rfl, .rf, rfl⟩
theorem lineM {N M x i : Nat} {h : AH} (H : ScN N M x h) (hi : i < N) (q : Int32) : ∃ r h1, mo_line (nI i) q h = some (r, h1) ∧ Core h h1 ∧ r = (if q = 0 then h.1 77 i else if q = 1 then h.1 78 i else if q = 2 then h.1 79 i else if q = 3 then h.1 80 i else if q = 4 then wk (mM h) 0 N (h.1 87) i else if q = 5 then mM h (h.1 77) i else if q = 6 then h.1 11 i else if q = 7 then h.1 12 i else if q = 8 then (if wrM h i then 1 else 0) else -1) := by
  have hN := H.N
  have g := gd (show i < 20 by omega) (by decide)
  let g1 : AH := sR h 87 (wk (mM h) 0 N (h.1 87))
  have c1 : Core h g1 := Core.sR rfl
  have H1 := H.core c1
  obtain ⟨rd, hd⟩ := depthOf_eq H1.WM hi H1.dp
  unfold mo_line fX12_line
  rw [isLine_in H.sM hN hi, if_neg (by decide), laysTruth_eq H.WM, ob]
  show ∃ r h1, (if q = 0 then (if nI i < 0 ∨ 20 ≤ (nI i).toNatClampNeg then none else some (g1.1 77 (nI i).toNatClampNeg, g1)) else if q = 1 then (if nI i < 0 ∨ 20 ≤ (nI i).toNatClampNeg then none else some (g1.1 78 (nI i).toNatClampNeg, g1)) else if q = 2 then (if nI i < 0 ∨ 20 ≤ (nI i).toNatClampNeg then none else some (g1.1 79 (nI i).toNatClampNeg, g1)) else if q = 3 then (if nI i < 0 ∨ 20 ≤ (nI i).toNatClampNeg then none else some (g1.1 80 (nI i).toNatClampNeg, g1)) else if q = 4 then (if nI i < 0 ∨ 20 ≤ (nI i).toNatClampNeg then none else some (g1.1 87 (nI i).toNatClampNeg, g1)) else if q = 5 then (fX12_makes (nI i) 77 g1).bind (fun b => some (b, g1)) else if q = 6 then (fX12_depthOf (nI i) g1).bind (fun b => some (b.1, b.2)) else if q = 7 then (fX12_usedBy (nI i) g1).bind (fun b => some (b, g1)) else if q = 8 then (fX12_isWrong (nI i) g1).bind (fun b => if b = 0 then some (0, g1) else some (1, g1)) else some (-1, g1)) = some (r, h1) ∧ _
  rw [if_neg g, if_neg g, if_neg g, if_neg g, if_neg g, nI_clamp (by omega), makes_eq H1.WM hi (by decide), hd, usedBy_eq H1.WM, isWrongM_eq H1.WM hi, ob, ob, ob, ob, ← H1.us hi]
  by_cases c0 : q = 0
  · rw [if_pos c0, if_pos c0]; exact ⟨_, _, rfl, c1, rfl⟩
  rw [if_neg c0, if_neg c0]
  by_cases c2 : q = 1
  · rw [if_pos c2, if_pos c2]; exact ⟨_, _, rfl, c1, rfl⟩
  rw [if_neg c2, if_neg c2]
  by_cases c3 : q = 2
  · rw [if_pos c3, if_pos c3]; exact ⟨_, _, rfl, c1, rfl⟩
  rw [if_neg c3, if_neg c3]
  by_cases c4 : q = 3
  · rw [if_pos c4, if_pos c4]; exact ⟨_, _, rfl, c1, rfl⟩
  rw [if_neg c4, if_neg c4]
  by_cases c5 : q = 4
  · rw [if_pos c5, if_pos c5]; exact ⟨_, _, rfl, c1, rfl⟩
  rw [if_neg c5, if_neg c5]
  by_cases c6 : q = 5
  · rw [if_pos c6, if_pos c6]; exact ⟨_, _, rfl, c1, rfl⟩
  rw [if_neg c6, if_neg c6]
  by_cases c7 : q = 6
  · rw [if_pos c7, if_pos c7]; exact ⟨_, _, rfl, c1.tr (Core.sR rfl), rfl⟩
  rw [if_neg c7, if_neg c7]
  by_cases c8 : q = 7
  · rw [if_pos c8, if_pos c8]; exact ⟨_, _, rfl, c1, rfl⟩
  rw [if_neg c8, if_neg c8]
  by_cases c9 : q = 8
  · rw [if_pos c9, if_pos c9]
    have : wrM g1 i = wrM h i := rfl
    rw [this]
    cases wrM h i
    · exact ⟨_, _, rfl, c1, rfl⟩
    · exact ⟨_, _, rfl, c1, rfl⟩
  · rw [if_neg c9, if_neg c9]; exact ⟨_, _, rfl, c1, rfl⟩
theorem ScN.rows {N M x i : Nat} {h : AH} (H : ScN N M x h) (hi : i < N) : h.1 7 i = h.1 77 i ∧ h.1 8 i = h.1 78 i ∧ h.1 9 i = h.1 79 i ∧ h.1 10 i = h.1 80 i := by
  obtain ⟨-, -, -, -, -, -, -, -, hK, hF, hS, hC, -⟩ := H
  exact ⟨hC i hi, hK i hi, hF i hi, hS i hi⟩
theorem st_line (p q : Int32) {h : AH} (I : Inv h) : St (xo_line p q) (mo_line p q) h := by
  obtain ⟨⟨N, M, x, H⟩, -⟩ := id I
  have hN := H.N
  rcases pl_cases (N := N) (by omega) p with ⟨i, hi, rfl⟩ | hp
  · obtain ⟨r, h1, a1, a2, a3⟩ := lineX H hi q
    have H1 := H.core a2
    obtain ⟨r', h2, b1, b2, b3⟩ := lineM H1 hi q
    have e : r' = r := by
      rw [a3, b3]
      obtain ⟨e1, e2, e3, e4⟩ := H1.rows hi
      rw [← e1, ← e2, ← e3, ← e4, ← H1.wr i hi, ← H1.same hi (H1.C.le (by omega)), ← (H1.tr (h.1 49) (h1.1 87)) i hi]
      have k := a2
      rw [k.C 7 (by decide), k.C 8 (by decide), k.C 9 (by decide), k.C 10 (by decide), k.C 11 (by decide), k.C 12 (by decide), mX_core k]
      have : wrX h1 i = wrX h i := by
        unfold wrX
        rw [k.C 7 (by decide), mX_core k]
      rw [this]
    rw [e] at b1
    exact St.ro I a1 a2 b1 b2
  · refine St.ro (r := -1) I ?_ .rf ?_ .rf
    · unfold xo_line fX11_line
      rw [holds_out H.sX hp, if_pos rfl]
    · unfold mo_line fX12_line
      rw [isLine_out H.sM hp, if_pos rfl]

theorem count_last {N : Nat} (h0 : 0 < N) (hN : N ≤ 20) : ¬ (nI N - 1 < 0 ∨ 20 ≤ (nI N - 1).toNatClampNeg) ∧ (nI N - 1).toNatClampNeg = N - 1 := by
  rw [nI_sub1 h0]
  exact ⟨gd (by omega) (by decide), nI_clamp (by omega)⟩
theorem st_count (p : Int32) {h : AH} (I : Inv h) : St (xo_count p) (mo_count p) h := by
  obtain ⟨⟨N, M, x, H⟩, hk, ⟨T, t1, t2, t3, t4⟩, n, hL⟩ := id I
  have hN := H.N
  by_cases c10 : p < 10
  · have hX : xo_count p h = (if p = 0 then some (h.1 6 0, h) else if p = 1 then some (h.1 42 0, h) else if p = 2 then some (h.1 1 1, h) else if p = 3 then some (h.1 3 1, h) else if p = 4 then some (h.1 3 0, h) else if p = 5 then (fX11_line (fX6_last h) 0 h).bind (fun b8 => some (b8.1, b8.2)) else if p = 6 then (fX11_line (fX6_last h) 4 h).bind (fun b8 => some (b8.1, b8.2)) else some (-1, h)) := by
      unfold xo_count fX11_count
      dsimp only [letT]
      rw [if_pos c10]
    have hM : ∀ g, mo_count p g = (if p = 0 then some (g.1 75 2, g) else if p = 1 then some (g.1 75 28, g) else if p = 2 then some (g.1 75 10, g) else if p = 3 then some (g.1 75 1, g) else if p = 4 then some (g.1 75 0, g) else if p = 5 then (if g.1 75 2 = 0 then some (-1, g) else if (g.1 75 2) - 1 < 0 ∨ 20 ≤ ((g.1 75 2) - 1).toNatClampNeg then none else some (g.1 77 ((g.1 75 2) - 1).toNatClampNeg, g)) else if p = 6 then (fX12_laysTruth g).bind (fun b10 => if b10.1 75 2 = 0 then some (-1, b10) else if (b10.1 75 2) - 1 < 0 ∨ 20 ≤ ((b10.1 75 2) - 1).toNatClampNeg then none else some (b10.1 87 ((b10.1 75 2) - 1).toNatClampNeg, b10)) else some (-1, g)) := by
      intro g
      unfold mo_count fX12_count
      rw [in_no (Or.inl c10), if_pos rfl]
    by_cases c0 : p = 0
    · exact St.ro (r := h.1 6 0) I (by rw [hX, if_pos c0]) .rf (by rw [hM, if_pos c0, H.sM, H.sX]) .rf
    by_cases c1 : p = 1
    · exact St.ro (r := h.1 42 0) I (by rw [hX, if_neg c0, if_pos c1]) .rf (by rw [hM, if_neg c0, if_pos c1, hL.2.1, hL.2.2.1]) .rf
    by_cases c2 : p = 2
    · exact St.ro (r := h.1 1 1) I (by rw [hX, if_neg c0, if_neg c1, if_pos c2]) .rf (by rw [hM, if_neg c0, if_neg c1, if_pos c2, t2, t3]) .rf
    by_cases c3 : p = 3
    · exact St.ro (r := h.1 3 1) I (by rw [hX, if_neg c0, if_neg c1, if_neg c2, if_pos c3]) .rf (by rw [hM, if_neg c0, if_neg c1, if_neg c2, if_pos c3, H.2.2.2.1, H.2.2.2.2.1]) .rf
    by_cases c4 : p = 4
    · exact St.ro (r := h.1 3 0) I (by rw [hX, if_neg c0, if_neg c1, if_neg c2, if_neg c3, if_pos c4]) .rf (by rw [hM, if_neg c0, if_neg c1, if_neg c2, if_neg c3, if_pos c4, H.eX, H.eM]) .rf
    have elast : fX6_last h = nI N - 1 := by
      unfold fX6_last
      rw [H.sX]
    by_cases N0 : N = 0
    · have hout : ∀ q, fX11_line (fX6_last h) q h = some (-1, h) := fun q => by
        unfold fX11_line
        rw [holds_out H.sX (Or.inl (by rw [elast, N0]; decide)), if_pos rfl]
      have hz : h.1 75 2 = 0 := by rw [H.sM, N0]; rfl
      by_cases c5 : p = 5
      · exact St.ro (r := -1) I (by rw [hX, if_neg c0, if_neg c1, if_neg c2, if_neg c3, if_neg c4, if_pos c5, hout]; rfl) .rf (by rw [hM, if_neg c0, if_neg c1, if_neg c2, if_neg c3, if_neg c4, if_pos c5, if_pos hz]) .rf
      by_cases c6 : p = 6
      · refine St.ro (r := -1) (h1 := h) (h2 := sR h 87 (wk (mM h) 0 N (h.1 87))) I (by rw [hX, if_neg c0, if_neg c1, if_neg c2, if_neg c3, if_neg c4, if_neg c5, if_pos c6, hout]; rfl) .rf ?_ (Core.sR rfl)
        rw [hM, if_neg c0, if_neg c1, if_neg c2, if_neg c3, if_neg c4, if_neg c5, if_pos c6, laysTruth_eq H.WM, ob, if_pos (show (sR h 87 (wk (mM h) 0 N (h.1 87))).1 75 2 = 0 from hz)]
      · exact St.ro (r := -1) I (by rw [hX, if_neg c0, if_neg c1, if_neg c2, if_neg c3, if_neg c4, if_neg c5, if_neg c6]) .rf (by rw [hM, if_neg c0, if_neg c1, if_neg c2, if_neg c3, if_neg c4, if_neg c5, if_neg c6]) .rf
    · have hl : N - 1 < N := by omega
      have hcl := count_last (N := N) (by omega) hN
      have hnz : ¬ nI N = 0 := nI_ne0 (by omega) (by omega)
      rw [nI_sub1 (by omega)] at elast
      by_cases c5 : p = 5
      · obtain ⟨r, h1, a1, a2, a3⟩ := lineX H hl 0
        rw [if_pos rfl] at a3
        have H1 := H.core a2
        refine St.ro (r := r) (h1 := h1) (h2 := h1) I ?_ a2 ?_ .rf
        · rw [hX, if_neg c0, if_neg c1, if_neg c2, if_neg c3, if_neg c4, if_pos c5, elast]
          rw [show fX11_line (nI (N - 1)) 0 h = some (r, h1) from a1, ob]
        · rw [hM, if_neg c0, if_neg c1, if_neg c2, if_neg c3, if_neg c4, if_pos c5, H1.sM, if_neg hnz, if_neg hcl.1, hcl.2, a3, ← H1.C (N - 1) hl, a2.C 7 (by decide)]
      by_cases c6 : p = 6
      · obtain ⟨r, h1, a1, a2, a3⟩ := lineX H hl 4
        rw [if_neg (by decide), if_neg (by decide), if_neg (by decide), if_neg (by decide), if_pos rfl] at a3
        have H1 := H.core a2
        refine St.ro (r := r) (h1 := h1) (h2 := sR h1 87 (wk (mM h1) 0 N (h1.1 87))) I ?_ a2 ?_ (Core.sR rfl)
        · rw [hX, if_neg c0, if_neg c1, if_neg c2, if_neg c3, if_neg c4, if_neg c5, if_pos c6, elast]
          rw [show fX11_line (nI (N - 1)) 4 h = some (r, h1) from a1, ob]
        · have hs : (sR h1 87 (wk (mM h1) 0 N (h1.1 87))).1 75 2 = nI N := H1.sM
          rw [hM, if_neg c0, if_neg c1, if_neg c2, if_neg c3, if_neg c4, if_neg c5, if_pos c6, laysTruth_eq H1.WM, ob, hs, if_neg hnz, if_neg hcl.1, hcl.2, sR_at, a3, mM_core a2, ← (H.tr (h.1 49) (h1.1 87)) (N - 1) hl]
      · exact St.ro (r := -1) I (by rw [hX, if_neg c0, if_neg c1, if_neg c2, if_neg c3, if_neg c4, if_neg c5, if_neg c6]) .rf (by rw [hM, if_neg c0, if_neg c1, if_neg c2, if_neg c3, if_neg c4, if_neg c5, if_neg c6]) .rf
  · have cge : ¬ p < 0 := fun q => c10 (fa_trans q (by decide))
    obtain ⟨j, hj, rfl⟩ := nI_of cge
    have j10 : 10 ≤ j := by
      by_cases q : 10 ≤ j
      · exact q
      · exact absurd (nI_lt (a := j) (b := 10) (by omega) (by decide)) c10
    have n0 : ¬ nI j = 0 := ne_lit (j := 0) hj (by decide) (by omega)
    have n1 : ¬ nI j = 1 := ne_lit (j := 1) hj (by decide) (by omega)
    have n2 : ¬ nI j = 2 := ne_lit (j := 2) hj (by decide) (by omega)
    have n3 : ¬ nI j = 3 := ne_lit (j := 3) hj (by decide) (by omega)
    have n4 : ¬ nI j = 4 := ne_lit (j := 4) hj (by decide) (by omega)
    have n5 : ¬ nI j = 5 := ne_lit (j := 5) hj (by decide) (by omega)
    have n6 : ¬ nI j = 6 := ne_lit (j := 6) hj (by decide) (by omega)
    by_cases j20 : j < 20
    · have es : nI j - 10 = nI (j - 10) := nI_sub (b := 10) j10
      refine St.ro (r := h.1 4 (j - 10)) I ?_ .rf ?_ .rf
      · unfold xo_count fX11_count
        dsimp only [letT]
        rw [if_neg c10, if_pos (show nI j < 20 from nI_lt (b := 20) j20 (by decide)), es, at_in (show j - 10 < aln 4 by show _ < 10; omega)]
      · unfold mo_count fX12_count
        rw [if_neg n0, if_neg n1, if_neg n2, if_neg n3, if_neg n4, if_neg n5, if_neg n6, in_yes c10 (show ¬ (19 : Int32) < nI j from nI_nlt (a := 19) (by omega) (by decide)), if_neg (by decide), es, if_neg (gd (show j - 10 < 10 by omega) (by decide)), nI_clamp (by omega), H.2.2.2.2.2.2.2.1 (j - 10) (by omega)]
    · refine St.ro (r := -1) I ?_ .rf ?_ .rf
      · unfold xo_count fX11_count
        dsimp only [letT]
        rw [if_neg c10, if_neg (show ¬ nI j < 20 from nI_nlt (b := 20) (by omega) hj), if_neg n0, if_neg n1, if_neg n2, if_neg n3, if_neg n4, if_neg n5, if_neg n6]
      · unfold mo_count fX12_count
        rw [if_neg n0, if_neg n1, if_neg n2, if_neg n3, if_neg n4, if_neg n5, if_neg n6, in_no (Or.inr (show (19 : Int32) < nI j from nI_lt (a := 19) (by omega) hj)), if_pos rfl]
