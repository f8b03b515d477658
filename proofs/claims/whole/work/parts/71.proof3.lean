/-! ===== the class lays a line down ===== -/
theorem lean_eq {j a : Nat} {h : AH} (hj : j < 20) (ha : a < 20) : fX6_lean (nI j) (nI a) h = sI (sI (sI h 31 j (jmax (h.1 31 j) (h.1 31 a + 1))) 33 j ((h.1 33 j ||| h.1 33 a) ||| jshl 1 (nI a))) 32 a (h.1 32 a + 1) := by
  unfold fX6_lean
  rw [letT_eq, letT_eq, letT_eq, at_in (show j < aln 31 from hj), at_in (show a < aln 31 from ha), put_in (show j < aln 31 from hj), at_in (show j < aln 33 from hj), at_in (show a < aln 33 from ha), put_in (show j < aln 33 from hj), at_in (show a < aln 32 from ha), put_in (show a < aln 32 from ha)]
  rfl
/-- a line that may stand there -/
def LnV (M j : Nat) (L : Ln) : Prop := L.1 < M ∧ ((L.2.1 = 0 ∧ L.2.2.1 < 10 ∧ L.2.2.2 = none) ∨ ((L.2.1 = 1 ∨ L.2.1 = 2) ∧ L.2.2.1 < j ∧ L.2.2.2 = none) ∨ ((L.2.1 = 3 ∨ L.2.1 = 4) ∧ L.2.2.1 < j ∧ ∃ b, b < j ∧ L.2.2.2 = some b))
def lnS (L : Ln) : Int32 := L.2.2.2.elim (-2) nI
/-- what line j is to what was there -/
def adD (D : Rw) (L : Ln) : Int32 := if L.2.1 = 0 then 0 else match L.2.2.2 with | none => D L.2.2.1 + 1 | some b => jmax (D L.2.2.1 + 1) (D b + 1)
def adN (Nd : Rw) (L : Ln) : Int32 := if L.2.1 = 0 then 0 else match L.2.2.2 with | none => Nd L.2.2.1 ||| jshl 1 (nI L.2.2.1) | some b => (Nd L.2.2.1 ||| jshl 1 (nI L.2.2.1)) ||| (Nd b ||| jshl 1 (nI b))
def adH (L : Ln) (i : Nat) : Bool := !decide (L.2.1 = 0) && (decide (L.2.2.1 = i) || (match L.2.2.2 with | none => false | some b => decide (b = i)))
theorem jmax_0 {d : Nat} (h : d < 1000) : jmax 0 (nI d + 1) = nI d + 1 := by
  unfold jmax
  rw [nI_1, if_pos (show (0 : Int32) < nI (d + 1) from nI_lt (a := 0) (by omega) (by omega))]
theorem jmax_s (x : Int32) : jmax x x = x := by
  unfold jmax
  split <;> rfl
theorem or_0l (x : Int32) : (0 : Int32) ||| x = x := b_ext (fun i _ => by rw [b_or, b_0, Bool.false_or])
theorem or_ss (x : Int32) : x ||| x = x := b_ext (fun i _ => by rw [b_or, Bool.or_self])
theorem or_as (x y z : Int32) : (x ||| y) ||| z = x ||| (y ||| z) := b_ext (fun i _ => by rw [b_or, b_or, b_or, b_or, Bool.or_assoc])
theorem add_eq {M j : Nat} {L : Ln} {g : AH} (hj : j < 20) (e26 : g.1 26 0 = nI j) (hV : LnV M j L) (hD : ∀ i, i < j → ∃ d, d < 1000 ∧ g.1 31 i = nI d) :
    (∀ c, c < 26 ∨ 33 < c → (fX6_add (nI L.1) (nI L.2.1) (nI L.2.2.1) (lnS L) g).1 c = g.1 c) ∧ (fX6_add (nI L.1) (nI L.2.1) (nI L.2.2.1) (lnS L) g).2 = g.2 ∧ (fX6_add (nI L.1) (nI L.2.1) (nI L.2.2.1) (lnS L) g).1 26 0 = nI (j + 1) ∧ (fX6_add (nI L.1) (nI L.2.1) (nI L.2.2.1) (lnS L) g).1 27 = upd (g.1 27) j (nI L.1) ∧ (fX6_add (nI L.1) (nI L.2.1) (nI L.2.2.1) (lnS L) g).1 28 = upd (g.1 28) j (nI L.2.1) ∧ (fX6_add (nI L.1) (nI L.2.1) (nI L.2.2.1) (lnS L) g).1 29 = upd (g.1 29) j (nI L.2.2.1) ∧ (fX6_add (nI L.1) (nI L.2.1) (nI L.2.2.1) (lnS L) g).1 30 = upd (g.1 30) j (lnS L) ∧
    (fX6_add (nI L.1) (nI L.2.1) (nI L.2.2.1) (lnS L) g).1 31 = upd (g.1 31) j (adD (g.1 31) L) ∧ (fX6_add (nI L.1) (nI L.2.1) (nI L.2.2.1) (lnS L) g).1 33 = upd (g.1 33) j (adN (g.1 33) L) ∧ (∀ i, i < j → (fX6_add (nI L.1) (nI L.2.1) (nI L.2.2.1) (lnS L) g).1 32 i = g.1 32 i + (if adH L i then 1 else 0)) ∧ (fX6_add (nI L.1) (nI L.2.1) (nI L.2.2.1) (lnS L) g).1 32 j = 0 := by
  obtain ⟨c, k, a, o⟩ := L
  obtain ⟨-, hV⟩ := hV
  dsimp only [lnS] at hV ⊢
  -- behind the puts
  let g9 : AH := sI (sI (sI (sI (sI (sI (sI (sI g 26 0 (nI (j + 1))) 27 j (nI c)) 28 j (nI k)) 29 j (nI a)) 30 j (o.elim (-2) nI)) 31 j 0) 32 j 0) 33 j 0
  have h9 : fX6_add (nI c) (nI k) (nI a) (o.elim (-2) nI) g = letT (fun (g10 : AH) => if nI k < (3 : Int32) then g10 else if o.elim (-2) nI = nI a then g10 else letT (fX6_lean (nI j) (o.elim (-2) nI) g10) (fun g14 => g14)) (fun J11 => if nI k = 0 then J11 g9 else letT (fX6_lean (nI j) (nI a) g9) (fun g16 => J11 g16)) := by
    unfold fX6_add
    rw [e26, if_pos (show nI j < 20 from nI_lt (b := 20) hj (by decide)), nI_1, letT_eq, letT_eq, letT_eq, letT_eq, letT_eq, letT_eq, letT_eq, letT_eq, put_in (show j < aln 27 from hj), put_in (show j < aln 28 from hj), put_in (show j < aln 29 from hj), put_in (show j < aln 30 from hj), put_in (show j < aln 31 from hj), put_in (show j < aln 32 from hj), put_in (show j < aln 33 from hj)]
  generalize hr : fX6_add (nI c) (nI k) (nI a) (o.elim (-2) nI) g = r
  rw [h9, letT_eq] at hr
  dsimp only at hr
  have n31 : ∀ v w : Int32, upd (upd (g.1 31) j v) j w = upd (g.1 31) j w := fun v w => upd_upd _ _ _ _
  have n33 : ∀ v w : Int32, upd (upd (g.1 33) j v) j w = upd (g.1 33) j w := fun v w => upd_upd _ _ _ _
  have frm : ∀ (f31 f32 f33 : Rw) (c' : Nat), c' < 26 ∨ 33 < c' → (sR (sR (sR g9 31 f31) 33 f33) 32 f32).1 c' = g.1 c' := fun f31 f32 f33 c' hc => by
    rw [sR_ne _ _ (by omega), sR_ne _ _ (by omega), sR_ne _ _ (by omega)]
    show (sI (sI (sI (sI (sI (sI (sI (sI g 26 0 (nI (j + 1))) 27 j (nI c)) 28 j (nI k)) 29 j (nI a)) 30 j (o.elim (-2) nI)) 31 j 0) 32 j 0) 33 j 0).1 c' = _
    rw [sI_ne _ _ _ (by omega), sI_ne _ _ _ (by omega), sI_ne _ _ _ (by omega), sI_ne _ _ _ (by omega), sI_ne _ _ _ (by omega), sI_ne _ _ _ (by omega), sI_ne _ _ _ (by omega), sI_ne _ _ _ (by omega)]
  -- all in one form
  have form : ∀ (r : AH) (f31 f32 f33 : Rw), r = sR (sR (sR g9 31 f31) 33 f33) 32 f32 → f31 = upd (g.1 31) j (adD (g.1 31) (c, k, a, o)) → f33 = upd (g.1 33) j (adN (g.1 33) (c, k, a, o)) → (∀ i, i < j → f32 i = g.1 32 i + (if adH (c, k, a, o) i then 1 else 0)) → f32 j = 0 →
      (∀ c, c < 26 ∨ 33 < c → r.1 c = g.1 c) ∧ r.2 = g.2 ∧ r.1 26 0 = nI (j + 1) ∧ r.1 27 = upd (g.1 27) j (nI c) ∧ r.1 28 = upd (g.1 28) j (nI k) ∧ r.1 29 = upd (g.1 29) j (nI a) ∧ r.1 30 = upd (g.1 30) j (o.elim (-2) nI) ∧ r.1 31 = upd (g.1 31) j (adD (g.1 31) (c, k, a, o)) ∧ r.1 33 = upd (g.1 33) j (adN (g.1 33) (c, k, a, o)) ∧ (∀ i, i < j → r.1 32 i = g.1 32 i + (if adH (c, k, a, o) i then 1 else 0)) ∧ r.1 32 j = 0 := by
    intro r f31 f32 f33 er e31 e33 e32 e32j
    subst er
    exact ⟨frm f31 f32 f33, rfl, rfl, rfl, rfl, rfl, rfl, e31, e33, e32, e32j⟩
  by_cases k0 : k = 0
  · subst k0
    rw [if_pos (show nI 0 = 0 from rfl), if_pos (show nI 0 < 3 by decide)] at hr
    refine form r (g9.1 31) (g9.1 32) (g9.1 33) ?_ ?_ ?_ (fun i hi => ?_) ?_
    · rw [← hr, sR_self]
      rw [show (sR g9 33 (g9.1 33)) = g9 from sR_self _ _, sR_self]
    · show upd (g.1 31) j 0 = _
      rfl
    · show upd (g.1 33) j 0 = _
      rfl
    · show upd (g.1 32) j 0 i = _
      rw [upd_ne _ _ (by omega)]
      simp [adH]
    · show upd (g.1 32) j 0 j = 0
      exact upd_at _ _ _
  · have nk : ¬ nI k = 0 := ne_lit (j := 0) (by omega) (by decide) k0
    have haj : a < j := by
      rcases hV with ⟨q, -⟩ | ⟨-, q, -⟩ | ⟨-, q, -⟩
      · exact absurd q k0
      · exact q
      · exact q
    obtain ⟨da, hda, eda⟩ := hD a haj
    have l1 : fX6_lean (nI j) (nI a) g9 = sR (sR (sR g9 31 (upd (g.1 31) j (g.1 31 a + 1))) 33 (upd (g.1 33) j (g.1 33 a ||| jshl 1 (nI a)))) 32 (upd (upd (g.1 32) j 0) a (g.1 32 a + 1)) := by
      rw [lean_eq hj (by omega)]
      have r31j : g9.1 31 j = 0 := upd_at (g.1 31) j 0
      have r31a : g9.1 31 a = g.1 31 a := upd_ne (g.1 31) 0 (show a ≠ j by omega)
      have r33j : g9.1 33 j = 0 := upd_at (g.1 33) j 0
      have r33a : g9.1 33 a = g.1 33 a := upd_ne (g.1 33) 0 (show a ≠ j by omega)
      have r32a : g9.1 32 a = g.1 32 a := upd_ne (g.1 32) 0 (show a ≠ j by omega)
      rw [r31j, r31a, r33j, r33a, r32a, or_0l, eda, jmax_0 hda, sI_sR, sI_sR, sI_sR]
      have q31 : upd (g9.1 31) j (nI da + 1) = upd (g.1 31) j (nI da + 1) := upd_upd (g.1 31) j 0 _
      have q33 : ∀ f, (sR g9 31 f).1 33 = g9.1 33 := fun f => sR_ne _ _ (by decide)
      have q33' : ∀ v, upd (g9.1 33) j v = upd (g.1 33) j v := fun v => upd_upd (g.1 33) j 0 _
      have q32 : ∀ f f', (sR (sR g9 31 f) 33 f').1 32 = g9.1 32 := fun f f' => by rw [sR_ne _ _ (by decide), sR_ne _ _ (by decide)]
      rw [q31, q33, q33', q32]
      rfl
    rw [if_neg nk, letT_eq, l1] at hr
    generalize el : sR (sR (sR g9 31 (upd (g.1 31) j (g.1 31 a + 1))) 33 (upd (g.1 33) j (g.1 33 a ||| jshl 1 (nI a)))) 32 (upd (upd (g.1 32) j 0) a (g.1 32 a + 1)) = gl at hr
    rcases hV with ⟨q, -⟩ | ⟨q, -, eo⟩ | ⟨q, -, b, hb, eo⟩
    · exact absurd q k0
    · have : nI k < 3 := nI_lt (b := 3) (by omega) (by decide)
      rw [if_pos this] at hr
      subst eo
      refine form r _ _ _ (hr.symm.trans el.symm) ?_ ?_ (fun i hi => ?_) ?_
      · unfold adD
        rw [if_neg k0]
      · unfold adN
        rw [if_neg k0]
      · by_cases e : a = i
        · subst e
          rw [upd_at]
          simp [adH, k0]
        · have e' : ¬ i = a := fun z => e z.symm
          rw [upd_ne _ _ e', upd_ne _ _ (by omega)]
          simp [adH, e]
      · rw [upd_ne _ _ (by omega), upd_at]
    · have : ¬ nI k < 3 := nI_nlt (b := 3) (by omega) (by omega)
      rw [if_neg this] at hr
      subst eo
      have hr : (if nI b = nI a then gl else letT (fX6_lean (nI j) (nI b) gl) (fun g14 => g14)) = r := hr
      by_cases ba : b = a
      · subst ba
        rw [if_pos rfl] at hr
        refine form r _ _ _ (hr.symm.trans el.symm) ?_ ?_ (fun i hi => ?_) ?_
        · unfold adD
          rw [if_neg k0]
          dsimp only
          rw [jmax_s]
        · unfold adN
          rw [if_neg k0]
          dsimp only
          rw [or_ss]
        · by_cases e : b = i
          · subst e
            rw [upd_at]
            simp [adH, k0]
          · have e' : ¬ i = b := fun z => e z.symm
            rw [upd_ne _ _ e', upd_ne _ _ (by omega)]
            simp [adH, e]
        · rw [upd_ne _ _ (by omega), upd_at]
      · rw [if_neg (ne_lit (by omega) (by omega) ba), letT_eq, lean_eq hj (by omega)] at hr
        have s31j : gl.1 31 j = g.1 31 a + 1 := by rw [← el]; exact upd_at (g.1 31) j _
        have s31b : gl.1 31 b = g.1 31 b := by rw [← el]; exact upd_ne (g.1 31) _ (show b ≠ j by omega)
        have s33j : gl.1 33 j = g.1 33 a ||| jshl 1 (nI a) := by rw [← el]; exact upd_at (g.1 33) j _
        have s33b : gl.1 33 b = g.1 33 b := by rw [← el]; exact upd_ne (g.1 33) _ (show b ≠ j by omega)
        have s32b : gl.1 32 b = g.1 32 b := by
          rw [← el]
          show upd (upd (g.1 32) j 0) a (g.1 32 a + 1) b = _
          rw [upd_ne _ _ ba, upd_ne _ _ (by omega)]
        rw [s31j, s31b, s33j, s33b, s32b] at hr
        refine form r (upd (g.1 31) j (jmax (g.1 31 a + 1) (g.1 31 b + 1))) (upd (upd (upd (g.1 32) j 0) a (g.1 32 a + 1)) b (g.1 32 b + 1)) (upd (g.1 33) j ((g.1 33 a ||| jshl 1 (nI a) ||| g.1 33 b) ||| jshl 1 (nI b))) ?_ ?_ ?_ (fun i hi => ?_) ?_
        · rw [← hr, sI_sR, sI_sR, sI_sR]
          have q31 : ∀ v, upd (gl.1 31) j v = upd (g.1 31) j v := fun v => by rw [← el]; exact upd_upd (g.1 31) j _ _
          have q33 : ∀ f, (sR gl 31 f).1 33 = gl.1 33 := fun f => sR_ne _ _ (by decide)
          have q33' : ∀ v, upd (gl.1 33) j v = upd (g.1 33) j v := fun v => by rw [← el]; exact upd_upd (g.1 33) j _ _
          have q32 : ∀ f f', (sR (sR gl 31 f) 33 f').1 32 = gl.1 32 := fun f f' => by rw [sR_ne _ _ (by decide), sR_ne _ _ (by decide)]
          have q32' : gl.1 32 = upd (upd (g.1 32) j 0) a (g.1 32 a + 1) := by rw [← el]; rfl
          rw [q31, q33, q33', q32, q32', ← el]
          unfold sR
          congr 1
          funext c'
          by_cases c1 : c' = 32
          · rw [if_pos c1, if_pos c1]
          · rw [if_neg c1, if_neg c1]
            by_cases c2 : c' = 33
            · rw [c2]; rfl
            · by_cases c3 : c' = 31
              · rw [c3]; rfl
              · simp [c1, c2, c3]
        · unfold adD
          rw [if_neg k0]
        · unfold adN
          rw [if_neg k0]
          dsimp only
          rw [or_as (g.1 33 a ||| jshl 1 (nI a))]
        · by_cases e : b = i
          · subst e
            rw [upd_at]
            simp [adH, k0]
          · have e' : ¬ i = b := fun z => e z.symm
            rw [upd_ne _ _ e']
            by_cases e2 : a = i
            · subst e2
              rw [upd_at]
              simp [adH, k0]
            · have e2' : ¬ i = a := fun z => e2 z.symm
              rw [upd_ne _ _ e2', upd_ne _ _ (by omega)]
              simp [adH, e, e2]
        · rw [upd_ne _ _ (by omega), upd_ne _ _ (by omega), upd_at]
