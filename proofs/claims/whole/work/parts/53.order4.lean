def oA (t w : Nat → Nat) (N : Nat) : Nat := if (oS t w N N).2.2 = 0 then 0 else (oS t w N N).2.1 / Nat.gcd (oS t w N N).2.1 (oS t w N N).2.2
def oB (t w : Nat → Nat) (N : Nat) : Nat := if (oS t w N N).2.2 = 0 then 1 else (oS t w N N).2.2 / Nat.gcd (oS t w N N).2.1 (oS t w N N).2.2
theorem rank_eq {N M x : Nat} {h g : AH} {t w : Nat → Nat} (H : ScN N M x h) (ht : ∀ i, i < N → t i ≤ 99) (hw : ∀ i, i < N → w i ≤ 99) (c : Core h g) (R : ∀ i, i < N → g.1 68 i = nI (t i) ∧ g.1 69 i = nI (w i)) : ∃ g', fX8_rank (nI N) g = some g' ∧ Core h g' ∧ (∀ i, i < N → g'.1 70 i = nI (oN t w N i)) ∧ g'.2 67 3 = lN (oA t w N) ∧ g'.2 67 4 = lN (oB t w N) := by
  have hN := H.N
  unfold fX8_rank
  dsimp only [letT]
  obtain ⟨g1, e1, c1, q1, a1, b1⟩ := rank22 (K := fun g12 => (fX8_shorten g12).bind (fun b13 => some b13)) (g := sJ (sJ g 67 3 0) 67 4 0) H ht hw ((c.tr Core.sJ).tr Core.sJ) R rfl rfl
  have e1' : fX8_rank_l22 (fun g12 => (fX8_shorten g12).bind (fun b13 => some b13)) (nI N) fuel0 (fX11_bit (nI N) g - 1) 0 0 (sJ (sJ g 67 3 0) 67 4 0) = (fX8_shorten g1).bind (fun b13 => some b13) := e1
  rw [e1']
  obtain ⟨l1, l2, l3, l4⟩ := oS_le ht hw hN N (Nat.le_refl _)
  unfold oA oB
  generalize oS t w N N = s at a1 b1 l1 l2 l3 l4
  unfold fX8_shorten
  rw [a1, b1]
  have k := gcdX (h := g1) (K := fun (y4 : Int64) => if (lg_cmp (lN s.2.2) (0 : Int64)) = 0 then letT (sJ g1 67 4 (1 : Int64)) (fun g11 => some g11) else if 0 < (lg_cmp y4 (0 : Int64)) then (if y4 = 0 then none else letT (sJ g1 67 3 (lN s.2.1 / y4)) (fun g8 => if y4 = 0 then none else letT (sJ g8 67 4 ((g8.2 67 4) / y4)) (fun g10 => some g10))) else some g1) 11 s.2.1 s.2.2 fuel0 0 (by omega) (by omega) (by omega) (by have := fuel_big; omega) (by omega)
  have k' : fX8_shorten_l13 (fun (y4 : Int64) => if (lg_cmp (lN s.2.2) (0 : Int64)) = 0 then letT (sJ g1 67 4 (1 : Int64)) (fun g11 => some g11) else if 0 < (lg_cmp y4 (0 : Int64)) then (if y4 = 0 then none else letT (sJ g1 67 3 (lN s.2.1 / y4)) (fun g8 => if y4 = 0 then none else letT (sJ g8 67 4 ((g8.2 67 4) / y4)) (fun g10 => some g10))) else some g1) g1 fuel0 (lN s.2.1) (lN s.2.2) 0 = _ := k
  rw [k', lg_z (show s.2.2 < 2 ^ 62 by omega)]
  dsimp only [letT]
  by_cases z : s.2.2 = 0
  · rw [if_pos z, if_pos rfl, if_pos z, if_pos z, ob]
    refine ⟨_, rfl, c1.tr Core.sJ, q1, ?_, rfl⟩
    show g1.2 67 3 = _
    rw [a1, l4 z]
  · have gp : 0 < Nat.gcd s.2.1 s.2.2 := Nat.gcd_pos_of_pos_right _ (by omega)
    have gl : Nat.gcd s.2.1 s.2.2 ≤ s.2.2 := Nat.gcd_le_right _ (by omega)
    have gz : ¬ lN (Nat.gcd s.2.1 s.2.2) = 0 := lN_nz (by omega) (by omega)
    rw [if_neg z, if_neg (by decide), lg_z (show Nat.gcd s.2.1 s.2.2 < 2 ^ 62 by omega), if_neg (show ¬ Nat.gcd s.2.1 s.2.2 = 0 by omega), if_pos (by decide), if_neg gz, if_neg gz, if_neg z, if_neg z, ob]
    refine ⟨_, rfl, (c1.tr Core.sJ).tr Core.sJ, q1, ?_, ?_⟩
    · show lN s.2.1 / lN (Nat.gcd s.2.1 s.2.2) = _
      exact pk_lDiv (by omega) gp (by omega)
    · show g1.2 67 4 / lN (Nat.gcd s.2.1 s.2.2) = _
      rw [b1]
      exact pk_lDiv (by omega) gp (by omega)
theorem lays61 {N M x : Nat} {h g : AH} {t w : Nat → Nat} (H : ScN N M x h) (ht : ∀ i, i < N → t i ≤ 99) (hw : ∀ i, i < N → w i ≤ 99) (c : Core h g) (R : ∀ i, i < N → g.1 106 i = nI (t i) ∧ g.1 107 i = nI (w i)) : ∃ g', fX12_laysOrder_l61 fuel0 (jshl 1 (nI N) - 1) 0 g = some g' ∧ Core h g' ∧ (∀ i, i < N → g'.1 108 i = nI (oN t w N i)) ∧ ∀ i, i < N → g'.1 106 i = nI (t i) ∧ g'.1 107 i = nI (w i) := by
  have hN := H.N
  obtain ⟨s, e, -, q⟩ := for_ex (F := fun m xx (s : Int32 × AH) => fX12_laysOrder_l61 m s.1 xx s.2) (fun s => some s.2) N (by omega) (fun k s => s.1 = nI (bs (oL t w N k) N) ∧ Core h s.2 ∧ (∀ i, i < k → s.2.1 108 i = nI (oN t w N i)) ∧ ∀ i, i < N → s.2.1 106 i = nI (t i) ∧ s.2.1 107 i = nI (w i)) (fun m k s hk hI => by
      obtain ⟨a, g⟩ := s
      obtain ⟨ea, cg, q108, R⟩ := hI
      dsimp only at ea cg q108 R
      subst ea
      show ∃ s', fX12_laysOrder_l61b (fX12_laysOrder_l61 m) (nI (bs (oL t w N k) N)) (nI k) g = _ ∧ _
      unfold fX12_laysOrder_l61b
      have hf := (oN_spec (t := t) (w := w) (N := N) k (by omega)).2 hk
      have hl : oN t w N k < N := by have := (fst_some hf).2.1; omega
      have gk := gd (show k < 20 by omega) (by decide)
      dsimp only [letT]
      rw [(H.core cg).sM, if_pos (nI_lt hk (by omega)), lays72 hN (H.core cg).sM ht hw R hf, if_neg gk, nI_clamp (by omega), bs_drop hN hl, nI_1]
      refine ⟨(_, _), rfl, rfl, cg.tr (Core.sR (a := 108) rfl), ?_, R⟩
      intro i hi
      show upd (g.1 108) k _ i = _
      by_cases ei : i = k
      · rw [ei, upd_at]
      · rw [upd_ne _ _ ei]; exact q108 i (by omega)) (fun m s hI => by
      show fX12_laysOrder_l61b (fX12_laysOrder_l61 m) s.1 (nI N) s.2 = _
      unfold fX12_laysOrder_l61b
      rw [(H.core hI.2.1).sM, if_neg (nI_nlt (Nat.le_refl _) (by omega))]) fuel0 0 (jshl 1 (nI N) - 1, g) (by omega) (by have := fuel_big; omega) ⟨bs_all hN, c, fun i hi => absurd hi (Nat.not_lt_zero _), R⟩
  exact ⟨s.2, e, q.1, q.2.1, q.2.2⟩
theorem order68 {N M x : Nat} {h g : AH} {t w : Nat → Nat} {p2 : Int32} {K : Int64 → Int64 → Option (Int64 × AH)} (H : ScN N M x h) (ht : ∀ i, i < N → t i ≤ 99) (hw : ∀ i, i < N → w i ≤ 99) (c : Core h g) (R : ∀ i, i < N → g.1 106 i = nI (t i) ∧ g.1 107 i = nI (w i)) (Q : ∀ i, i < N → g.1 108 i = nI (oN t w N i)) : fX12_order_l68 K p2 g fuel0 0 0 0 0 = K (lN (oS t w N N).2.1) (lN (oS t w N N).2.2) := by
  have hN := H.N
  have k := for_up (F := fun m xx (s : Nat × Nat × Nat) => fX12_order_l68 K p2 g m (lN s.2.1) (lN s.2.2) (nI s.1) xx) (fun j s => (s.1 + t (oN t w N j), s.2.1 + (s.1 + t (oN t w N j)) * w (oN t w N j), s.2.2 + w (oN t w N j))) (fun s => K (lN s.2.1) (lN s.2.2)) N (by omega) (fun k s => s = oS t w N k) (fun m k s hk hI => by
      refine ⟨?_, by rw [oS_succ, ← hI]⟩
      have hle := (oS_le ht hw hN k (by omega)).1
      rw [← hI] at hle
      have hf := (oN_spec (t := t) (w := w) (N := N) k (by omega)).2 hk
      have hl : oN t w N k < N := by have := (fst_some hf).2.1; omega
      have gk := gd (show k < 20 by omega) (by decide)
      have gl := gd (show oN t w N k < 20 by omega) (by decide)
      have a1 := ht _ hl
      have a2 := hw _ hl
      show fX12_order_l68b (fX12_order_l68 K p2 g m) K p2 g (lN s.2.1) (lN s.2.2) (nI s.1) (nI k) = _
      unfold fX12_order_l68b
      have ck : (nI k).toNatClampNeg = k := nI_clamp (by omega)
      have cl : (nI (oN t w N k)).toNatClampNeg = oN t w N k := nI_clamp (by omega)
      dsimp only [letT]
      rw [(H.core c).sM, if_pos (nI_lt hk (by omega))]
      simp only [gk, if_false]
      rw [ck, Q k hk]
      simp only [gl, if_false]
      rw [cl, (R _ hl).1, (R _ hl).2, nI_add, nI_l (by omega), nI_l (by omega), lN_mul, lN_add, lN_add, nI_1, Nat.mul_comm (w _)]) (fun m s _ => by
      show fX12_order_l68b (fX12_order_l68 K p2 g m) K p2 g (lN s.2.1) (lN s.2.2) (nI s.1) (nI N) = _
      unfold fX12_order_l68b
      rw [(H.core c).sM, if_neg (nI_nlt (Nat.le_refl _) (by omega))]) fuel0 0 (0, 0, 0) (by omega) (by have := fuel_big; omega) rfl
  rw [Nat.sub_zero] at k
  exact k.1
/-- what order answers -/
def oR (t w : Nat → Nat) (N p : Nat) : Int64 := if p = 30 then lN (oA t w N) else if p = 31 then lN (oB t w N) else lN (oN t w N p)
theorem orderX {N M x n p : Nat} {h : AH} {he : Int32} {L : Nat → Int32} {C V : Nat → Rw → Int32} {t w : Nat → Nat} (H : ScN N M x h) (X : Lx h n L C V) (h0 : 0 < N) (hh1 : ¬ he < 0) (hh2 : he < 10) (ht : ∀ i, i < N → t i ≤ 99) (hw : ∀ i, i < N → w i ≤ 99) (et : ∀ i, i < N → oT h N M n L C V he i = nI (t i)) (ew : ∀ i, i < N → oW h N M n L C V i = nI (w i)) (hp : p < N ∨ p = 30 ∨ p = 31) : ∃ h1, xo_order he (nI p) h = some (oR t w N p, h1) ∧ Core h h1 := by
  have hN := H.N
  have go : ∀ w1 : Int32, (w1 = 0 ∧ p < N ∨ w1 = 1 ∧ (p = 30 ∨ p = 31)) → ∃ h1, fX11_order_l70 (fun (g14 : AH) => (fX8_rank (g14.1 6 0) g14).bind (fun b15 => if w1 = 0 then some ((fX11_at 70 (nI p) b15).toInt64, b15) else if nI p = (30 : Int32) then some (b15.2 67 3, b15) else some (b15.2 67 4, b15))) he (nI p) w1 fuel0 (0 : Int32) h = some (oR t w N p, h1) ∧ Core h h1 := fun w1 hw1 => by
    obtain ⟨g, e, c, q⟩ := order70 (he := he) (p2 := nI p) (w := w1) (K := fun (g14 : AH) => (fX8_rank (g14.1 6 0) g14).bind (fun b15 => if w1 = 0 then some ((fX11_at 70 (nI p) b15).toInt64, b15) else if nI p = (30 : Int32) then some (b15.2 67 3, b15) else some (b15.2 67 4, b15))) H X
    obtain ⟨g', e2, c2, q70, qa, qb⟩ := rank_eq (t := t) (w := w) H ht hw c (fun i hi => by rw [(q i hi).1, (q i hi).2, et i hi, ew i hi]; exact ⟨rfl, rfl⟩)
    rw [e, (H.core c).sX, e2, ob]
    unfold oR
    rcases hw1 with ⟨rfl, hpn⟩ | ⟨rfl, hp3⟩
    · have hl : oN t w N p < N := by have := (fst_some ((oN_spec (t := t) (w := w) (N := N) p (by omega)).2 hpn)).2.1; omega
      rw [if_pos rfl, at_in (show p < aln 70 by show _ < 20; omega), q70 p hpn, nI_l (by omega), if_neg (by omega), if_neg (by omega)]
      exact ⟨g', rfl, c2⟩
    · rw [if_neg (by decide), qa, qb]
      rcases hp3 with rfl | rfl
      · rw [if_pos (show nI 30 = 30 from rfl), if_pos rfl]
        exact ⟨g', rfl, c2⟩
      · rw [if_neg (show ¬ nI 31 = 30 by decide), if_neg (by decide), if_pos rfl]
        exact ⟨g', rfl, c2⟩
  unfold xo_order fX11_order
  dsimp only [letT]
  have nz : ¬ nI N = 0 := ne_lit (j := 0) (by omega) (by decide) (by omega)
  rcases hp with hp | hp | hp
  · rw [if_neg (show ¬ nI p = 30 from ne_lit (j := 30) (by omega) (by decide) (by omega)), if_neg (show ¬ nI p = 31 from ne_lit (j := 31) (by omega) (by decide) (by omega)), if_neg hh1, if_pos hh2, H.sX, if_neg nz, holds_in H.sX hN hp, if_neg d10']
    exact go 0 (Or.inl ⟨rfl, hp⟩)
  · have e30 : nI p = 30 := by rw [hp]; rfl
    obtain ⟨h1, e, c⟩ := go 1 (Or.inr ⟨rfl, Or.inl hp⟩)
    refine ⟨h1, ?_, c⟩
    rw [if_pos e30, if_neg hh1, if_pos hh2, H.sX, if_neg nz, e]
    simp only [d10, if_false, ite_self]
  · have e31 : nI p = 31 := by rw [hp]; rfl
    obtain ⟨h1, e, c⟩ := go 1 (Or.inr ⟨rfl, Or.inr hp⟩)
    refine ⟨h1, ?_, c⟩
    rw [if_neg (show ¬ nI p = 30 by rw [e31]; decide), if_pos e31, if_neg hh1, if_pos hh2, H.sX, if_neg nz, e]
    simp only [d10, if_false, ite_self]
