/-! ===== mended ===== -/
/-- nothing is wrong with these claims -/
def rgt (m : Rw → Nat → Int32) (N : Nat) (C : Rw) : Bool := decide (bs (fun j => !decide (C j = m C j)) N = 0)
theorem rgt_iff {m : Rw → Nat → Int32} {N : Nat} {C : Rw} : rgt m N C = true ↔ ∀ j, j < N → C j = m C j := by
  unfold rgt
  rw [decide_eq_true_eq, bs_zero]
  constructor
  · intro h j hj
    have := h j hj
    simp at this
    exact this
  · intro h j hj
    simp [h j hj]
theorem rgt_cong {m m' : Rw → Nat → Int32} {N : Nat} {C C' : Rw} (hm : ∀ i, i < N → ∀ r r', eqOn i r r' → m r i = m' r' i) (hC : eqOn N C C') : rgt m N C = rgt m' N C' := by
  rw [Bool.eq_iff_iff, rgt_iff, rgt_iff]
  constructor
  · intro h j hj
    rw [← hC j hj, h j hj]
    exact hm j hj _ _ (hC.le (by omega))
  · intro h j hj
    rw [hC j hj, h j hj]
    exact (hm j hj _ _ (hC.le (by omega))).symm
theorem upd_eqOn {r r' : Rw} {N i : Nat} {v : Int32} (h : eqOn N r r') : eqOn N (upd r i v) (upd r' i v) := fun j hj => by
  by_cases e : j = i
  · rw [e, upd_at, upd_at]
  · rw [upd_ne _ _ e, upd_ne _ _ e]; exact h j hj
/-- the one way to mend line i by a claim -/
def mdP (m : Rw → Nat → Int32) (N : Nat) (C : Rw) (i : Nat) : Bool := !decide (C i = m C i) && rgt m N (upd C i (m C i))
theorem isMended_eq {N M i : Nat} {h : AH} (w : WX N M h) (hi : i < N) : ∃ r, fX11_isMendedBy (nI i) h = some (if rgt (mX h) N (upd (h.1 7) i (mX h (h.1 7) i)) then 1 else 0, sR h 50 r) := by
  have hN := w.N
  obtain ⟨r, e1, q1⟩ := copyRow_ex (a := 7) (b := 50) (n := 20) (h := h) (by decide) rfl rfl
  unfold fX11_isMendedBy
  rw [e1, ob, made_eq (w.sR off50) hi (by decide), mX_sR off50, sR_at, put_in (show i < aln 50 by show i < 20; omega), sI_R]
  dsimp only [letT]
  have er : mX h r i = mX h (h.1 7) i := mX_ahead w i hi _ _ (q1.le (by omega))
  rw [er]
  refine ⟨upd r i (mX h (h.1 7) i), ?_⟩
  obtain ⟨g, eg⟩ : ∃ g, g = sR h 50 (upd r i (mX h (h.1 7) i)) := ⟨_, rfl⟩
  rw [← eg]
  have wg : WX N M g := by rw [eg]; exact w.sR off50
  have eg50 : g.1 50 = upd r i (mX h (h.1 7) i) := by rw [eg, sR_at]
  have egm : mX g = mX h := by rw [eg, mX_sR off50]
  have key := for_fst (F := fun m x => fX11_isMendedBy_l39 g m x) (fun j => !decide (g.1 50 j = mX h (g.1 50) j)) (fun _ => some (0, g)) (some (1, g)) N (by omega) (fun m k hk => by
      show fX11_isMendedBy_l39b (fX11_isMendedBy_l39 g m) g (nI k) = _
      unfold fX11_isMendedBy_l39b
      rw [wg.1, if_pos (nI_lt hk (by omega)), at_in (show k < aln 50 by show k < 20; omega), made_eq wg hk (by decide), egm, nI_1]
      by_cases e : g.1 50 k = mX h (g.1 50) k
      · rw [if_pos e, if_neg (by simp [e])]
      · rw [if_neg e, if_pos (by simp [e])]) (fun m => by
      show fX11_isMendedBy_l39b (fX11_isMendedBy_l39 g m) g (nI N) = _
      unfold fX11_isMendedBy_l39b
      rw [wg.1, if_neg (nI_nlt (Nat.le_refl _) (by omega))]) fuel0 0 (by omega) (by have := fuel_big; omega)
  refine key.trans ?_
  rw [Nat.sub_zero]
  have hr : rgt (mX h) N (g.1 50) = rgt (mX h) N (upd (h.1 7) i (mX h (h.1 7) i)) := rgt_cong (mX_ahead w) (by rw [eg50]; exact upd_eqOn (q1.le hN))
  rw [← hr]
  cases hf : fst (fun j => !decide (g.1 50 j = mX h (g.1 50) j)) 0 N with
  | none =>
    have h1 := fst_none hf
    have : rgt (mX h) N (g.1 50) = true := rgt_iff.mpr (fun j hj => by
      have := h1 j (by omega) (by omega)
      simpa using this)
    rw [this]
    rfl
  | some j =>
    obtain ⟨-, h2, h3, -⟩ := fst_some hf
    have : rgt (mX h) N (g.1 50) = false := by
      rw [Bool.eq_false_iff]
      intro q
      have := rgt_iff.mp q j (by omega)
      simp [this] at h3
    rw [this]
    rfl
theorem bs_nz {p : Nat → Bool} {N : Nat} (hN : N ≤ 20) (h : ¬ bs p N = 0) : ¬ nI (bs p N) = 0 := ne_lit (j := 0) (Nat.lt_trans (bs_lt _ N) (Nat.pow_lt_pow_right (by decide) (by omega))) (by decide) h
theorem mendedX {N M x : Nat} {h : AH} (H : ScN N M x h) (p : Nat) (hp : p ≤ 2) (hw : ¬ bs (wrX h) N = 0) : ∃ h1, xo_mended (nI p) h = some ((if p = 0 then nI (ct (mdP (mX h) N (h.1 7)) N) else match fst (mdP (mX h) N (h.1 7)) 0 N with | none => -2 | some j => if p = 1 then nI j else mX h (h.1 7) j), h1) ∧ Core h h1 := by
  have hN := H.N
  obtain ⟨r0, e0, f0⟩ := forget_eq (h := h)
  unfold xo_mended fX11_mended
  rw [if_neg (nI_pos (by omega)), if_neg (show ¬ (2 : Int32) < nI p from nI_nlt (a := 2) (by omega) (by decide)), wrongLines_eq H.WX, ob, if_neg (bs_nz hN hw), e0, ob]
  let P := mdP (mX h) N (h.1 7)
  let V : Nat → Int32 × Int32 × Int32 := fun j => (nI j, mX h (h.1 7) j, -2)
  obtain ⟨g, hg, c, f⟩ := for_ex (F := fun m xx g => fX11_mended_l27 (fun g14 => some (fX11_at 52 (nI p) g14, g14)) (nI p) m xx g) (fun g14 => some (fX11_at 52 (nI p) g14, g14)) N (by omega) (fun k g => Core h g ∧ FR (g.1 52) (ct P k) ((fst P 0 k).map V)) (fun m k g hk hI => by
      obtain ⟨c, f⟩ := hI
      have Hg := H.core c
      obtain ⟨r, er⟩ := isMended_eq Hg.WX hk
      rw [mX_core c, c.C 7 (by decide)] at er
      have hwr : wrX g k = !decide (h.1 7 k = mX h (h.1 7) k) := by
        unfold wrX
        rw [mX_core c, c.C 7 (by decide)]
      have hstep : fX11_mended_l27 (fun g14 => some (fX11_at 52 (nI p) g14, g14)) (nI p) (m + 1) (nI k) g = _ := rfl
      have hun : fX11_mended_l27 (fun g14 => some (fX11_at 52 (nI p) g14, g14)) (nI p) (m + 1) (nI k) g = fX11_mended_l27b (fX11_mended_l27 (fun g14 => some (fX11_at 52 (nI p) g14, g14)) (nI p) m) (fun g14 => some (fX11_at 52 (nI p) g14, g14)) (nI p) (nI k) g := rfl
      show ∃ s', fX11_mended_l27 (fun g14 => some (fX11_at 52 (nI p) g14, g14)) (nI p) (m + 1) (nI k) g = _ ∧ _
      rw [hun]
      unfold fX11_mended_l27b
      rw [Hg.sX, if_pos (nI_lt hk (by omega)), isWrongX_eq Hg.WX hk, hwr, er, ob, nI_1]
      dsimp only
      by_cases e : h.1 7 k = mX h (h.1 7) k
      · have hP : P k = false := by show mdP (mX h) N (h.1 7) k = false; unfold mdP; simp [e]
        refine ⟨g, by simp [e], c, ?_⟩
        rw [ct_succ, fst_last, Nat.zero_add, hP]
        cases hf : fst P 0 k with
        | none => rw [hf] at f; exact f
        | some j => rw [hf] at f; exact f
      · rw [if_neg (by simp [e])]
        cases hr : rgt (mX h) N (upd (h.1 7) k (mX h (h.1 7) k)) with
        | false =>
          have hP : P k = false := by show mdP (mX h) N (h.1 7) k = false; unfold mdP; simp [hr]
          refine ⟨sR g 50 r, by rfl, c.tr (Core.sR rfl), ?_⟩
          rw [ct_succ, fst_last, Nat.zero_add, hP, sR_ne _ _ (by decide)]
          cases hf : fst P 0 k with
          | none => rw [hf] at f; exact f
          | some j => rw [hf] at f; exact f
        | true =>
          have hP : P k = true := by show mdP (mX h) N (h.1 7) k = true; unfold mdP; simp [e, hr]
          obtain ⟨r2, en, fn⟩ := note_eq (h := sR g 50 r) (nI k) (mX h (h.1 7) k) (-2) (by rw [sR_ne _ _ (by decide)]; exact f) (by have := ct_le P k; omega)
          have em : fX9_made (nI k) 7 (sR g 50 r) = mX h (h.1 7) k := by
            rw [made_eq ((Hg.core (Core.sR (h := g) (a := 50) (r := r) rfl)).WX) hk (by decide), mX_sR off50, mX_core c, sR_ne _ _ (by decide), c.C 7 (by decide)]
          refine ⟨sR (sR g 50 r) 52 r2, ?_, (c.tr (Core.sR rfl)).tr (Core.sR rfl), ?_⟩
          · simp only [if_true, d10, if_false]
            rw [em, en]
            rfl
          · rw [ct_succ, fst_last, Nat.zero_add, hP, sR_at]
            cases hf : fst P 0 k with
            | none => rw [hf] at fn; exact fn
            | some j => rw [hf] at fn; exact fn) (fun m g hI => by
      show fX11_mended_l27b (fX11_mended_l27 (fun g14 => some (fX11_at 52 (nI p) g14, g14)) (nI p) m) (fun g14 => some (fX11_at 52 (nI p) g14, g14)) (nI p) (nI N) g = _
      unfold fX11_mended_l27b
      rw [(H.core hI.1).sX, if_neg (nI_nlt (Nat.le_refl _) (by omega))]) fuel0 0 (sR h 52 r0) (by omega) (by have := fuel_big; omega) ⟨Core.sR rfl, by rw [sR_at]; exact f0⟩
  refine ⟨g, ?_, c⟩
  refine hg.trans ?_
  rw [at_in (show p < aln 52 by show p < 4; omega)]
  obtain ⟨a0, a1, a2, -⟩ := f.ask
  by_cases p0 : p = 0
  · rw [if_pos p0, p0, a0]
  · rw [if_neg p0]
    by_cases p1 : p = 1
    · subst p1
      rw [a1]
      cases hf : fst P 0 N with
      | none => rfl
      | some j => rfl
    · have p2 : p = 2 := by omega
      subst p2
      rw [a2]
      cases hf : fst P 0 N with
      | none => rfl
      | some j => rfl

theorem sI_back (h : AH) (a i : Nat) (v : Int32) : sI (sI h a i v) a i (h.1 a i) = h := by
  rw [sI_sR, sI_sR, sR_at, sR_sR, upd_upd]
  have : upd (h.1 a) i (h.1 a i) = h.1 a := by
    funext j
    by_cases e : j = i
    · rw [e, upd_at]
    · rw [upd_ne _ _ e]
  rw [this, sR_self]
theorem d10' : ¬ (1 : Int32) = 0 := by decide
def mdQ (m : Rw → Nat → Int32) (N M : Nat) (C : Rw) (c : Nat) : Bool := !decide (nI (c % M) = C (c / M)) && rgt m N (upd C (c / M) (nI (c % M)))
theorem wrongM_at {N M i : Nat} {v : Int32} {h : AH} (w : WM N M h) : fX12_wrong (sI h 77 i v) = some (if rgt (mM h) N (upd (h.1 77) i v) then 0 else nI (bs (fun j => !decide (upd (h.1 77) i v j = mM h (upd (h.1 77) i v) j)) N)) := by
  have w2 : WM N M (sI h 77 i v) := by rw [sI_sR]; exact w.sR (by unfold offM; omega)
  rw [wrong_eqM w2]
  have e : wrM (sI h 77 i v) = fun j => !decide (upd (h.1 77) i v j = mM h (upd (h.1 77) i v) j) := by
    funext j
    unfold wrM
    rw [sI_sR, mM_sR (by unfold offM; omega), sR_at]
  rw [e]
  unfold rgt
  by_cases c : bs (fun j => !decide (upd (h.1 77) i v j = mM h (upd (h.1 77) i v) j)) N = 0
  · rw [if_pos (by simp [c]), c]
    rfl
  · rw [if_neg (by simp [c])]
theorem mendedM {N M : Nat} {h : AH} (w : WM N M h) (p : Nat) (hp : p ≤ 2) (hw : ¬ bs (wrM h) N = 0) : mo_mended (nI p) h = (if p = 0 then some (nI (ct (mdQ (mM h) N M (h.1 77)) (N * M)), h) else match fst (mdQ (mM h) N M (h.1 77)) 0 (N * M) with | none => some (-2, h) | some c => some (if p = 1 then nI (c / M) else nI (c % M), h)) := by
  have hN := w.N
  obtain ⟨m0, hm, m1, m2, -⟩ := w.2
  have hmp := nI_m m1 m2
  have hNM : N * M ≤ 20 * 97 := Nat.mul_le_mul hN m2
  unfold mo_mended fX12_mended
  rw [in_yes (nI_pos (by omega)) (show ¬ (2 : Int32) < nI p from nI_nlt (a := 2) (by omega) (by decide)), if_neg (by decide), wrong_eqM w, ob, if_neg (bs_nz hN hw)]
  let K : Int32 → Int32 → AH → Option (Int32 × AH) := fun y26 y27 g28 => if nI p = 0 then some (y26, g28) else if y27 = (-1 : Int32) then some ((-2 : Int32), g28) else if nI p = (1 : Int32) then (if (g28.1 75 0) = 0 then none else some (y27 / (g28.1 75 0), g28)) else (if (g28.1 75 0) = 0 then none else some (jrem y27 (g28.1 75 0), g28))
  show fX12_mended_l25 K (nI p) fuel0 0 (-1) 0 h = _
  have key := mf_loop' (F := fun n many first x => fX12_mended_l25 K (nI p) n many first x h) (mdQ (mM h) N M (h.1 77)) (N * M) (by omega) (fun many first => K many first h) (fun n c many first hc => by
      show fX12_mended_l25b (fX12_mended_l25 K (nI p) n) K (nI p) many first (nI c) h = _
      unfold fX12_mended_l25b
      dsimp only [letT]
      have hi : c / M < N := Nat.div_lt_of_lt_mul (by rw [Nat.mul_comm]; exact hc)
      have g := gd (show c / M < 20 by omega) (by decide)
      rw [w.1, hm, nI_mul, if_pos (nI_lt hc (by omega)), if_neg hmp.2, if_neg hmp.2, if_neg hmp.2, nI_div (by omega) (by omega) (by omega), jrem_nI (by omega) (by omega) (by omega)]
      simp only [g, if_false]
      rw [nI_clamp (by omega), sI_back, wrongM_at w, ob, nI_1]
      unfold mdQ
      by_cases e : nI (c % M) = h.1 77 (c / M)
      · rw [if_pos e, if_neg (by simp [e])]
      · rw [if_neg e]
        cases hr : rgt (mM h) N (upd (h.1 77) (c / M) (nI (c % M))) with
        | false =>
          have hz : ¬ bs (fun j => !decide (upd (h.1 77) (c / M) (nI (c % M)) j = mM h (upd (h.1 77) (c / M) (nI (c % M))) j)) N = 0 := by
            unfold rgt at hr
            simpa using hr
          simp only [reduceCtorEq, if_false, Bool.and_false]
          rw [if_neg (bs_nz hN hz)]
          simp only [if_true]
        | true =>
          by_cases f : first = -1
          · simp only [if_true, Bool.and_true, d10, if_false, e, decide_false, Bool.not_false, f]
          · simp only [if_true, Bool.and_true, d10, if_false, e, decide_false, Bool.not_false, f]) (fun n many first => by
      show fX12_mended_l25b (fX12_mended_l25 K (nI p) n) K (nI p) many first (nI (N * M)) h = _
      unfold fX12_mended_l25b
      rw [w.1, hm, nI_mul, if_neg (nI_nlt (Nat.le_refl _) (by omega))])
  refine key.trans ?_
  show (if nI p = 0 then _ else _) = _
  by_cases p0 : p = 0
  · rw [if_pos p0, if_pos (by rw [p0]; rfl)]
  · rw [if_neg p0, if_neg (show ¬ nI p = 0 from ne_lit (j := 0) (by omega) (by decide) p0)]
    cases hf : fst (mdQ (mM h) N M (h.1 77)) 0 (N * M) with
    | none => rfl
    | some c =>
      have hc := (fst_some hf).2.1
      rw [show ans (some c) = nI c from rfl, if_neg (fun q => nI_pos (n := c) (by omega) (by rw [q]; decide)), hm, if_neg hmp.2, if_neg hmp.2, nI_div (by omega) (by omega) (by omega), jrem_nI (by omega) (by omega) (by omega)]
      by_cases p1 : p = 1
      · rw [if_pos (by rw [p1]; rfl)]
        simp [p1]
      · rw [if_neg (show ¬ nI p = 1 from ne_lit (j := 1) (by omega) (by decide) p1)]
        simp [p1]
/-- a block of M codes for each line, in which at most one is right -/
theorem block_one {P Q : Nat → Bool} {N M : Nat} {v : Nat → Nat} (hM : 0 < M) (hv : ∀ i, i < N → v i < M) (hQ : ∀ i, i < N → ∀ u, u < M → Q (i * M + u) = (decide (u = v i) && P i)) : ct Q (N * M) = ct P N ∧ fst Q 0 (N * M) = (fst P 0 N).map (fun j => j * M + v j) := by
  have blk : ∀ i, i < N → ∀ u, u ≤ M → ct Q (i * M + u) = ct Q (i * M) + (if v i < u then (P i).toNat else 0) ∧ fst Q 0 (i * M + u) = (match fst Q 0 (i * M) with | some j => some j | none => if v i < u ∧ P i = true then some (i * M + v i) else none) := by
    intro i hi u
    induction u with
    | zero =>
      intro _
      refine ⟨by simp, ?_⟩
      rw [Nat.add_zero]
      cases fst Q 0 (i * M) <;> simp
    | succ u ih =>
      intro hu
      obtain ⟨a, b⟩ := ih (by omega)
      have hq := hQ i hi u (by omega)
      rw [show i * M + (u + 1) = (i * M + u) + 1 by omega, ct_succ, fst_last, Nat.zero_add, a, b, hq]
      by_cases e : u = v i
      · subst e
        cases hP : P i with
        | false =>
          refine ⟨by simp, ?_⟩
          cases fst Q 0 (i * M) <;> simp
        | true =>
          refine ⟨by simp, ?_⟩
          cases fst Q 0 (i * M) <;> simp
      · simp only [e, decide_false, Bool.false_and, reduceCtorEq, if_false]
        by_cases c1 : v i < u
        · have c2 : v i < u + 1 := by omega
          refine ⟨by simp [c1, c2], ?_⟩
          cases fst Q 0 (i * M) with
          | some j => rfl
          | none =>
            cases hP : P i <;> simp [c1, c2]
        · have c2 : ¬ v i < u + 1 := by omega
          refine ⟨by simp [c1, c2], ?_⟩
          cases fst Q 0 (i * M) with
          | some j => rfl
          | none => simp [c1, c2]
  have main : ∀ i, i ≤ N → ct Q (i * M) = ct P i ∧ fst Q 0 (i * M) = (fst P 0 i).map (fun j => j * M + v j) := by
    intro i
    induction i with
    | zero => intro _; rw [Nat.zero_mul]; exact ⟨rfl, rfl⟩
    | succ i ih =>
      intro hi
      obtain ⟨a, b⟩ := ih (by omega)
      obtain ⟨c, d⟩ := blk i (by omega) M (Nat.le_refl _)
      rw [Nat.succ_mul, c, d, a, b, ct_succ, fst_last, Nat.zero_add, if_pos (hv i (by omega))]
      refine ⟨rfl, ?_⟩
      cases fst P 0 i with
      | some j => rfl
      | none =>
        have hvi := hv i (by omega)
        cases hP : P i with
        | true => simp [hvi]
        | false => simp
  exact main N (Nat.le_refl _)
theorem st_mended (q : Int32) {h : AH} (I : Inv h) : St (xo_mended q) (mo_mended q) h := by
  obtain ⟨⟨N, M, x, H⟩, -⟩ := id I
  have hN := H.N
  have hM := H.M97
  rcases what_cases (k := 2) (by decide) q with ⟨p, hp, rfl⟩ | hq
  · by_cases hw : bs (wrX h) N = 0
    · refine St.ro (r := -1) I ?_ .rf ?_ .rf
      · unfold xo_mended fX11_mended
        rw [if_neg (nI_pos (by omega)), if_neg (show ¬ (2 : Int32) < nI p from nI_nlt (a := 2) (by omega) (by decide)), wrongLines_eq H.WX, ob, hw, if_pos (by rfl)]
      · unfold mo_mended fX12_mended
        rw [in_yes (nI_pos (by omega)) (show ¬ (2 : Int32) < nI p from nI_nlt (a := 2) (by omega) (by decide)), if_neg (by decide), wrong_eqM H.WM, ob, ← bs_cong H.wr, hw, if_pos (by rfl)]
    · obtain ⟨h1, eX, c⟩ := mendedX H p hp hw
      have H1 := H.core c
      have w1 := H1.WM
      have hw1 : ¬ bs (wrM h1) N = 0 := by
        rw [← bs_cong H1.wr]
        have : ∀ i, i < N → wrX h1 i = wrX h i := fun i hi => by
          unfold wrX
          rw [mX_core c, c.C 7 (by decide)]
        rw [bs_cong this]
        exact hw
      have eM := mendedM w1 p hp hw1
      rw [mM_core c, c.C 77 (by decide)] at eM
      -- the blocks
      have hval : ∀ i, ∃ v, i < N → v < M ∧ mX h (h.1 7) i = nI v := fun i => by
        by_cases hi : i < N
        · obtain ⟨v, h1, h2⟩ := mk_cl H.WX.2 hi (fun j hj => H.Cl j (by omega))
          exact ⟨v, fun _ => ⟨h1, h2⟩⟩
        · exact ⟨0, fun q => absurd q hi⟩
      obtain ⟨v, hv⟩ := Classical.axiomOfChoice hval
      have blk := block_one (P := mdP (mX h) N (h.1 7)) (Q := mdQ (mM h) N M (h.1 77)) (N := N) (M := M) (v := v) (by omega) (fun i hi => (hv i hi).1) (fun i hi u hu => by
        have ed : (i * M + u) / M = i := by
          rw [Nat.mul_comm, Nat.mul_add_div (by omega), Nat.div_eq_of_lt hu, Nat.add_zero]
        have em : (i * M + u) % M = u := by
          rw [Nat.mul_comm, Nat.mul_add_mod, Nat.mod_eq_of_lt hu]
        unfold mdQ mdP
        rw [ed, em]
        have hc : eqOn N (h.1 7) (h.1 77) := H.C
        have hr : rgt (mM h) N (upd (h.1 77) i (nI u)) = rgt (mX h) N (upd (h.1 7) i (nI u)) := (rgt_cong (fun i hi r r' e => H.same hi e) (upd_eqOn hc)).symm
        rw [hr, ← hc i hi]
        by_cases e : u = v i
        · subst e
          rw [← (hv i hi).2]
          have : decide (mX h (h.1 7) i = h.1 7 i) = decide (h.1 7 i = mX h (h.1 7) i) := by
            apply decide_eq_decide.mpr
            exact ⟨Eq.symm, Eq.symm⟩
          simp [this]
        · have : rgt (mX h) N (upd (h.1 7) i (nI u)) = false := by
            rw [Bool.eq_false_iff]
            intro q
            have h1 := rgt_iff.mp q i hi
            rw [upd_at, mX_ahead H.WX i hi _ (h.1 7) (fun j hj => upd_ne _ _ (by omega)), (hv i hi).2] at h1
            exact e ((nI_eq (by omega) (by have := (hv i hi).1; omega)).mp h1)
          rw [this]
          simp [e])
      rw [blk.1, blk.2] at eM
      by_cases p0 : p = 0
      · rw [if_pos p0] at eX eM
        exact St.ro I eX c eM .rf
      · rw [if_neg p0] at eX eM
        cases hf : fst (mdP (mX h) N (h.1 7)) 0 N with
        | none =>
          rw [hf] at eX eM
          exact St.ro I eX c eM .rf
        | some j =>
          have hj : j < N := by have := (fst_some hf).2.1; omega
          have hvj := (hv j hj).1
          have ed : (j * M + v j) / M = j := by
            rw [Nat.mul_comm, Nat.mul_add_div (by omega), Nat.div_eq_of_lt hvj, Nat.add_zero]
          have em : (j * M + v j) % M = v j := by
            rw [Nat.mul_comm, Nat.mul_add_mod, Nat.mod_eq_of_lt hvj]
          rw [hf] at eX eM
          simp only [Option.map_some] at eX eM
          rw [ed, em, ← (hv j hj).2] at eM
          exact St.ro I eX c eM .rf
  · refine St.ro (r := -1) I ?_ .rf ?_ .rf
    · unfold xo_mended fX11_mended
      rcases hq with h1 | ⟨h1, h2⟩
      · rw [if_pos h1]
      · rw [if_neg h1, if_pos (show (2 : Int32) < q from h2)]
    · unfold mo_mended fX12_mended
      rw [in_no (p := q) (a := 0) (b := 2) (hq.imp id (fun z => z.2)), if_pos rfl]
