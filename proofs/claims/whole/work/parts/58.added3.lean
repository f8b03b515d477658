theorem off63 : offX 63 := by unfold offX; omega
theorem off64 : offX 64 := by unfold offX; omega
theorem bnS_lt {m : Rw → Nat → Int32} {N i v : Nat} {T : Rw} (hN : N ≤ 20) : bnS m N T i v < 2 ^ 20 := Nat.lt_of_lt_of_le (bs_lt _ N) (Nat.pow_le_pow_right (by decide) hN)
theorem collect44 {N M x i : Nat} {h g : AH} {T : Rw} {K : AH → Option AH} {l : List Nat} {σ : Nat → Nat} (H : ScN N M x h) (hi : i < N - 1) (c : Core h g) (e63 : g.1 63 = T) (hT : ∀ j, j < N → T j = mX h T j) (E : EncC g l) (C : Col (bnO (mX h) N T) (bnS (mX h) N T) M l σ i 0) (q66 : ∀ j, j ≤ i → g.1 66 j = nI (σ j)) :
    ∃ g' l', fX2_collectSets_l44 K (nI (N - 1)) (nI i) fuel0 0 g = K g' ∧ Core h g' ∧ g'.1 63 = T ∧ EncC g' l' ∧ Col (bnO (mX h) N T) (bnS (mX h) N T) M l' σ i M ∧ ∀ j, j ≤ i → g'.1 66 j = nI (σ j) := by
  have hN := H.N
  have hM := H.M97
  obtain ⟨s, e, c', e63', ⟨l', E', C'⟩, q'⟩ := for_ex (F := fun m xx s => fX2_collectSets_l44 K (nI (N - 1)) (nI i) m xx s) K M (by omega) (fun v s => Core h s ∧ s.1 63 = T ∧ (∃ l, EncC s l ∧ Col (bnO (mX h) N T) (bnS (mX h) N T) M l σ i v) ∧ ∀ j, j ≤ i → s.1 66 j = nI (σ j)) (fun m v s hv hI => by
      obtain ⟨c, e63, ⟨l, E, C⟩, q66⟩ := hI
      have Hg := H.core c
      show ∃ s', fX2_collectSets_l44b (fX2_collectSets_l44 K (nI (N - 1)) (nI i) m) K (nI (N - 1)) (nI i) (nI v) s = _ ∧ _
      unfold fX2_collectSets_l44b
      obtain ⟨r, e1, q1⟩ := copyRow_ex (a := 63) (b := 64) (n := 20) (h := s) (by decide) rfl rfl
      rw [e63] at q1
      have c2 : Core h (sR s 64 r) := c.tr (Core.sR rfl)
      rw [Hg.eX, if_pos (nI_lt hv (by omega)), e1, ob, slipIn_eq (H.core c2).WX off64 (by decide) (show i < N by omega), ob, sR_at, mX_core c2, sR_sR, nI_1, nI_1, Nat.sub_add_cancel (by omega), differing_eq hN (by decide) (by decide), ob, sR_at, sR_ne _ _ (show 63 ≠ 64 by decide), e63]
      have eS : bs (df (slp (mX h) N i (nI v) r) T) N = bnS (mX h) N T i v := bs_cong (fun k hk => df_cong (slp_cong (mX_ahead H.WX) (by omega) (q1.le hN)) eqOn.rf k hk)
      rw [eS]
      have c3 : Core h (sR s 64 (slp (mX h) N i (nI v) r)) := c.tr (Core.sR rfl)
      have lt20 := bnS_lt (m := mX h) (N := N) (i := i) (v := v) (T := T) hN
      have skip : bnO (mX h) N T i v = false → ∃ s', fX2_collectSets_l44 K (nI (N - 1)) (nI i) m (nI (v + 1)) (sR s 64 (slp (mX h) N i (nI v) r)) = fX2_collectSets_l44 K (nI (N - 1)) (nI i) m (nI (v + 1)) s' ∧ Core h s' ∧ s'.1 63 = T ∧ (∃ l, EncC s' l ∧ Col (bnO (mX h) N T) (bnS (mX h) N T) M l σ i (v + 1)) ∧ ∀ j, j ≤ i → s'.1 66 j = nI (σ j) := fun ho =>
        ⟨_, rfl, c3, by rw [sR_ne _ _ (by decide)]; exact e63, ⟨l, E, C.skip ho⟩, q66⟩
      by_cases z : bnS (mX h) N T i v = 0
      · rw [z, if_pos (show nI 0 = 0 from rfl)]
        refine skip ?_
        unfold bnO
        have := (bnS_zero (mX_ahead H.WX) hT (show i < N by omega)).mp z
        simp [this]
      · rw [if_neg (show ¬ nI (bnS (mX h) N T i v) = 0 from ne_lit (j := 0) (by omega) (by decide) z), isIn_bt _ (show N - 1 < 32 by omega), bt_nI (by omega)]
        have nz : ¬ nI v = T i := fun q => z ((bnS_zero (mX_ahead H.WX) hT (show i < N by omega)).mpr q)
        cases hb : (bnS (mX h) N T i v).testBit (N - 1) with
        | true =>
          rw [if_neg ite_t0]
          refine skip ?_
          unfold bnO
          rw [hb]
          simp
        | false =>
          have ho : bnO (mX h) N T i v = true := by unfold bnO; rw [hb]; simp [nz]
          rw [if_pos ite_f0, at_in (show i < aln 66 by show _ < 21; omega), show (sR s 64 (slp (mX h) N i (nI v) r)).1 66 i = nI (σ i) from q66 i (Nat.le_refl _)]
          have b1 : l.length < 1940 := by
            have := C.2.2.2.1
            have hh : i * M ≤ 18 * 97 := Nat.mul_le_mul (by omega) hM.2
            omega
          obtain ⟨g', a1, a2, a3⟩ := addSet_eq (g := sR s 64 (slp (mX h) N i (nI v) r)) (l := l) (a := σ i) (s := bnS (mX h) N T i v) E b1 C.2.2.1 (C.all (P := fun t => t < 2 ^ 20) (fun j u _ _ => bnS_lt hN)) lt20
          rw [a1, ob]
          refine ⟨g', rfl, c3.tr ⟨fun k hk => a3 k (fun e => by subst e; exact absurd hk (by decide)) (fun e => by subst e; exact absurd hk (by decide)), fun k hk => ?_⟩, ?_, ⟨_, a2, C.add ho⟩, fun j hj => ?_⟩
          · have : k.1 ≠ 62 ∧ k.1 ≠ 65 := by
              have all : coreS.all (fun k => decide (k.1 ≠ 62 ∧ k.1 ≠ 65)) = true := by decide
              exact of_decide_eq_true (List.all_eq_true.mp all k hk)
            rw [a3 k.1 this.1 this.2]
          · rw [a3 63 (by decide) (by decide), sR_ne _ _ (by decide)]; exact e63
          · rw [a3 66 (by decide) (by decide)]; exact q66 j hj) (fun m s hI => by
      show fX2_collectSets_l44b (fX2_collectSets_l44 K (nI (N - 1)) (nI i) m) K (nI (N - 1)) (nI i) (nI M) s = _
      unfold fX2_collectSets_l44b
      rw [(H.core hI.1).eX, if_neg (nI_nlt (Nat.le_refl _) (by omega))]) fuel0 0 g (by omega) (by have := fuel_big; omega) ⟨c, e63, ⟨l, E, C⟩, q66⟩
  exact ⟨s, l', e, c', e63', E', C', q'⟩
theorem collect_eq {N M x : Nat} {h : AH} (H : ScN N M x h) (h0 : 0 < N) : ∃ (g : AH) (n : Nat) (σ e : Nat → Nat), fX2_collectSets h = some g ∧ Core h g ∧ CvE g (N - 1) σ e n ∧ ∀ s, (∃ q, q < n ∧ e q = s) ↔ ∃ i v, i < N ∧ v < M ∧ bnO (mX h) N (wk (mX h) 0 N (h.1 63)) i v = true ∧ bnS (mX h) N (wk (mX h) 0 N (h.1 63)) i v = s := by
  have hN := H.N
  have hM := H.M97
  have c1 : Core h (sI h 62 4 0) := Core.sI rfl
  unfold fX2_collectSets
  dsimp only [letT]
  rw [truth_eq (H.core c1).WX off63 (by decide), ob, mX_core c1]
  have e0 : (sI h 62 4 0).1 63 = h.1 63 := rfl
  rw [e0]
  have hTt : ∀ j, j < N → wk (mX h) 0 N (h.1 63) j = mX h (wk (mX h) 0 N (h.1 63)) j := fun j hj => wk_in' (M := mX h) (N := N) (mX_ahead H.WX) (Nat.zero_le _) (by omega) (by omega)
  generalize wk (mX h) 0 N (h.1 63) = T at hTt
  have c2 : Core h (sR (sI h 62 4 0) 63 T) := c1.tr (Core.sR rfl)
  have el : fX6_last (sR (sI h 62 4 0) 63 T) = nI (N - 1) := by
    unfold fX6_last
    rw [(H.core c2).sX, nI_sub1 (by omega)]
  rw [el]
  have ej : jmax 0 (nI (N - 1)) = nI (N - 1) := by
    unfold jmax
    by_cases a : 0 < N - 1
    · rw [if_pos (show (0 : Int32) < nI (N - 1) from nI_lt (a := 0) a (by omega))]
    · have : N - 1 = 0 := by omega
      rw [this]
      rfl
  rw [ej]
  obtain ⟨s, e, c', e63', l, σ, E', C', es, q'⟩ := for_ex (F := fun m xx s => fX2_collectSets_l24 (fun (g18 : AH) => some (fX11_put 66 (nI (N - 1)) (g18.1 62 4) g18)) (nI (N - 1)) m xx s) (fun (g18 : AH) => some (fX11_put 66 (nI (N - 1)) (g18.1 62 4) g18)) (N - 1) (by omega) (fun i s => Core h s ∧ s.1 63 = T ∧ ∃ l σ, EncC s l ∧ Col (bnO (mX h) N T) (bnS (mX h) N T) M l σ i 0 ∧ σ i = l.length ∧ ∀ j, j < i → s.1 66 j = nI (σ j)) (fun m i s hi hI => by
      obtain ⟨c, e63, l, σ, E, C, es, q66⟩ := hI
      show ∃ s', fX2_collectSets_l24b (fX2_collectSets_l24 _ (nI (N - 1)) m) _ (nI (N - 1)) (nI i) s = _ ∧ _
      unfold fX2_collectSets_l24b
      dsimp only [letT]
      rw [if_pos (nI_lt hi (by omega)), put_in (show i < aln 66 by show _ < 21; omega), E.1]
      obtain ⟨g', l', a1, a2, a3, a4, a5, a6⟩ := collect44 (K := fun g17 => fX2_collectSets_l24 (fun (g18 : AH) => some (fX11_put 66 (nI (N - 1)) (g18.1 62 4) g18)) (nI (N - 1)) m (nI i + 1) g17) (g := sI s 66 i (nI l.length)) (l := l) (σ := σ) H hi (c.tr (Core.sR (a := 66) rfl)) e63 hTt E C (fun j hj => by
        show upd (s.1 66) i (nI l.length) j = _
        by_cases ej : j = i
        · rw [ej, upd_at, es]
        · rw [upd_ne _ _ ej]; exact q66 j (by omega))
      rw [a1, nI_1]
      refine ⟨g', rfl, a2, a3, l', _, a4, a5.next, ?_, fun j hj => ?_⟩
      · rw [if_neg (by omega)]
      · rw [if_pos (by omega)]
        exact a6 j (by omega)) (fun m s hI => by
      show fX2_collectSets_l24b (fX2_collectSets_l24 _ (nI (N - 1)) m) _ (nI (N - 1)) (nI (N - 1)) s = _
      unfold fX2_collectSets_l24b
      rw [if_neg (nI_nlt (Nat.le_refl _) (by omega))]) fuel0 0 (sR (sI h 62 4 0) 63 T) (by omega) (by have := fuel_big; omega) ⟨c2, sR_at _ _ _, [], fun _ => 0, ⟨rfl, fun q s hq => by cases hq⟩, ⟨rfl, fun j hj => absurd hj (Nat.not_lt_zero _), Nat.le_refl _, Nat.zero_le _, fun j hj => absurd hj (Nat.not_lt_zero _), fun s => ⟨fun ⟨q, _, hq⟩ => (by cases hq), fun ⟨u, hu, _⟩ => absurd hu (Nat.not_lt_zero _)⟩⟩, rfl, fun j hj => absurd hj (Nat.not_lt_zero _)⟩
  have mem : ∀ q, q < l.length → l[q]? = some (l.getD q 0) := fun q hq => by
    rw [List.getD_eq_getElem?_getD, List.getElem?_eq_getElem hq]; rfl
  have ok := fun j u (hj : j < N) (ho : bnO (mX h) N T j u = true) => bnS_ok hj ho
  have len : l.length ≤ 1940 := by
    have := C'.2.2.2.1
    have hh : (N - 1) * M ≤ 19 * 97 := Nat.mul_le_mul (by omega) hM.2
    omega
  refine ⟨_, l.length, σ, fun q => l.getD q 0, e, ?_, ⟨by omega, len, C'.1, es, fun j hj => ?_, C'.2.1, fun q hq => ⟨?_, ?_⟩, fun j hj q h1 h2 => ?_⟩, fun s' => ?_⟩
  · rw [put_in (show N - 1 < aln 66 by show _ < 21; omega)]
    exact c'.tr (Core.sR (a := 66) rfl)
  · rw [put_in (show N - 1 < aln 66 by show _ < 21; omega), E'.1]
    show upd (s.1 66) (N - 1) _ j = _
    by_cases ej : j = N - 1
    · rw [ej, upd_at, es]
    · rw [upd_ne _ _ ej]; exact q' j (by omega)
  · rw [put_in (show N - 1 < aln 66 by show _ < 21; omega)]
    exact E'.2 q _ (mem q hq)
  · exact C'.all (P := fun t => t < 2 ^ (N - 1)) (fun j u hj ho => (ok j u (by omega) ho).2.2.2) _ (List.mem_of_getElem? (mem q hq))
  · obtain ⟨u, -, y, z⟩ := (C'.2.2.2.2.1 j hj (l.getD q 0)).mp ⟨q, h1, h2, mem q (by
      have := C'.mono (j := j + 1) (by omega)
      omega)⟩
    obtain ⟨-, b2, b3, -⟩ := ok j u (by omega) y
    rw [z] at b2 b3
    exact ⟨b2, b3⟩
  · constructor
    · rintro ⟨q, hq, rfl⟩
      have key : ∀ j, j ≤ N - 1 → q < σ j → ∃ i v, i < N ∧ v < M ∧ bnO (mX h) N T i v = true ∧ bnS (mX h) N T i v = l.getD q 0 := by
        intro j
        induction j with
        | zero => intro _ a; rw [C'.1] at a; omega
        | succ j ih =>
          intro hj a
          by_cases b : q < σ j
          · exact ih (by omega) b
          · obtain ⟨u, x, y, z⟩ := (C'.2.2.2.2.1 j (by omega) (l.getD q 0)).mp ⟨q, by omega, a, mem q hq⟩
            exact ⟨j, u, by omega, x, y, z⟩
      exact key (N - 1) (Nat.le_refl _) (by omega)
    · rintro ⟨i, v, hi, hv, y, z⟩
      obtain ⟨q, a, b, d⟩ := (C'.2.2.2.2.1 i (ok i v hi y).1 s').mpr ⟨v, hv, y, z⟩
      refine ⟨q, (List.getElem?_eq_some_iff.mp d).1, ?_⟩
      show l.getD q 0 = s'
      rw [List.getD_eq_getElem?_getD, d]
      rfl
/-- the fewest, of like ones the least -/
def Lst (P : Nat → Prop) (L A : Nat) : Prop := A < 2 ^ L ∧ P A ∧ ∀ X, X < 2 ^ L → P X → pop A < pop X ∨ (pop A = pop X ∧ A ≤ X)
theorem least18 {g : AH} {L n A : Nat} {σ e : Nat → Nat} (E : CvE g L σ e n) (hA : Lst (Cov e n) L A) : fX2_leastLines_l18 (nI L) g fuel0 (-1) 0 = some (nI A, g) := by
  obtain ⟨a1, a2, a3⟩ := hA
  have hL := E.1
  have two20 : 2 ^ L ≤ 2 ^ 20 := Nat.pow_le_pow_right (by decide) (by omega)
  have pL : pop A ≤ L := by
    unfold pop
    have := ct_more (p := A.testBit) (n := L) (fun i hi => tb_big a1 hi) (20 - L)
    rw [show L + (20 - L) = 20 by omega] at this
    rw [this]
    exact ct_le _ L
  have key : ∀ d k f, k + d = pop A → d + 2 < f → fX2_leastLines_l18 (nI L) g f (-1) (nI k) = some (nI A, g) := by
    intro d
    induction d with
    | zero =>
      intro k f hk hf
      obtain ⟨f, rfl⟩ : ∃ f', f = f' + 2 := ⟨f - 2, by omega⟩
      have hkA : k = pop A := by omega
      show fX2_leastLines_l18b (fX2_leastLines_l18 (nI L) g (f + 1)) (nI L) g (-1) (nI k) = _
      unfold fX2_leastLines_l18b
      obtain ⟨o, e1, s1, s2⟩ := choose_eq E L 22 0 k (Nat.le_refl _) (by omega) (Nat.two_pow_pos L) (fun i _ => Nat.zero_testBit i) (fun q h1 h2 => by have := E.2.2.2.1; omega) (by omega)
      rw [if_neg (nI_nlt (by omega) (by omega)), if_pos (by decide), show (0 : Int32) = nI 0 from rfl, e1, ob, nI_1]
      cases o with
      | none => exact absurd (show Cov e n (0 ||| A) by rw [Nat.zero_or]; exact a2) (s1.1 rfl A a1 (by omega))
      | some r =>
        obtain ⟨X0, b1, b2, b3, b4, b5⟩ := s1.2 r rfl
        rw [Nat.zero_or] at b2
        subst b2
        have x := a3 r b1 b4
        have y := b5 A a1 (by omega) (by rw [Nat.zero_or]; exact a2)
        have er : r = A := by omega
        subst er
        show fX2_leastLines_l18b (fX2_leastLines_l18 (nI L) g f) (nI L) g (nI r) (nI (k + 1)) = _
        unfold fX2_leastLines_l18b
        rw [if_neg (show ¬ nI r < 0 from nI_pos (by omega)), ite_self]
    | succ d ih =>
      intro k f hk hf
      obtain ⟨f, rfl⟩ : ∃ f', f = f' + 1 := ⟨f - 1, by omega⟩
      show fX2_leastLines_l18b (fX2_leastLines_l18 (nI L) g f) (nI L) g (-1) (nI k) = _
      unfold fX2_leastLines_l18b
      obtain ⟨o, e1, s1, s2⟩ := choose_eq E L 22 0 k (Nat.le_refl _) (by omega) (Nat.two_pow_pos L) (fun i _ => Nat.zero_testBit i) (fun q h1 h2 => by have := E.2.2.2.1; omega) (by omega)
      rw [if_neg (nI_nlt (by omega) (by omega)), if_pos (by decide), show (0 : Int32) = nI 0 from rfl, e1, ob, nI_1]
      cases o with
      | none => exact ih (k + 1) f (by omega) (by omega)
      | some r =>
        obtain ⟨X0, b1, b2, b3, b4, b5⟩ := s1.2 r rfl
        rw [Nat.zero_or] at b2
        subst b2
        have x := a3 r b1 b4
        omega
  exact key (pop A) 0 fuel0 (by omega) (by have := fuel_big; omega)
theorem addedX {N M x p A : Nat} {h : AH} (H : ScN N M x h) (h0 : 0 < N) (hp : p ≤ 1) (hA : Lst (fun r => ∀ i v, i < N → v < M → bnO (mX h) N (wk (mX h) 0 N (h.1 63)) i v = true → ¬ (bnS (mX h) N (wk (mX h) 0 N (h.1 63)) i v &&& r = 0)) (N - 1) A) : ∃ h1, xo_added (nI p) h = some (if p = 0 then nI (pop A) else nI A, h1) ∧ Core h h1 := by
  have hN := H.N
  obtain ⟨g, n, σ, e, e1, c1, E, q1⟩ := collect_eq H h0
  have same : ∀ r, Cov e n r ↔ ∀ i v, i < N → v < M → bnO (mX h) N (wk (mX h) 0 N (h.1 63)) i v = true → ¬ (bnS (mX h) N (wk (mX h) 0 N (h.1 63)) i v &&& r = 0) := fun r => by
    constructor
    · intro hc i v hi hv ho
      obtain ⟨q, hq, eq⟩ := (q1 _).mpr ⟨i, v, hi, hv, ho, rfl⟩
      rw [← eq]
      exact hc q hq
    · intro hc q hq
      obtain ⟨i, v, hi, hv, ho, eq⟩ := (q1 (e q)).mp ⟨q, hq, rfl⟩
      rw [← eq]
      exact hc i v hi hv ho
  have hA' : Lst (Cov e n) (N - 1) A := ⟨hA.1, (same A).mpr hA.2.1, fun X hX hc => hA.2.2 X hX ((same X).mp hc)⟩
  have l18 := least18 E hA'
  have A20 : A < 2 ^ 20 := Nat.lt_of_lt_of_le hA.1 (Nat.pow_le_pow_right (by decide) (by omega))
  have el : fX6_last g = nI (N - 1) := by
    unfold fX6_last
    rw [(H.core c1).sX, nI_sub1 (by omega)]
  unfold xo_added fX11_added fX2_leastLines
  rw [if_neg (nI_pos (by omega)), if_neg (show ¬ (1 : Int32) < nI p from nI_nlt (a := 1) (by omega) (by omega)), H.sX, if_neg (show ¬ nI N = 0 from ne_lit (j := 0) (by omega) (by decide) (by omega)), e1, ob, el, l18, ob]
  dsimp only
  refine ⟨g, ?_, c1⟩
  by_cases z : p = 0
  · rw [z, if_pos (show nI 0 = 0 from rfl), if_pos rfl, bitCount_eq A20]
    rfl
  · rw [if_neg (show ¬ nI p = 0 from ne_lit (j := 0) (by omega) (by decide) z), if_neg z]
