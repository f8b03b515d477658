/-! ===== the model reads an E ===== -/
theorem factOf_eq (c : Int32) (h : AH) : fX12_factOf c h = (fct c).elim (-1) nI := by
  by_cases c1 : c = 105
  · subst c1; rfl
  by_cases c2 : c = 107
  · subst c2; rfl
  by_cases c3 : c = 118
  · subst c3; rfl
  by_cases c4 : c = 100
  · subst c4; rfl
  by_cases c5 : c = 117
  · subst c5; rfl
  by_cases c6 : c = 108
  · subst c6; rfl
  by_cases c7 : c = 109
  · subst c7; rfl
  by_cases c8 : c = 104
  · subst c8; rfl
  have e : fct c = none := by
    unfold fct
    by_cases h0 : c < 0
    · rw [if_pos h0]
    · rw [if_neg h0]
      show [105, 107, 118, 100, 117, 108, 109, 104].findIdx? (fun b => b == c) = none
      simp [List.findIdx?_cons, beq_no c1, beq_no c2, beq_no c3, beq_no c4, beq_no c5, beq_no c6, beq_no c7, beq_no c8]
  rw [e]
  unfold fX12_factOf
  rw [if_neg c4]
  repeat' (split <;> try rfl)
  all_goals first | rfl | contradiction
theorem sumSign_eq (c : Int32) (h : AH) : (∀ i, mulI c = some i → fX12_sumSign c h = nI (i + 2)) ∧ (mulI c = none → ∀ i, addI c = some i → fX12_sumSign c h = nI (i + 2)) ∧ (mulI c = none → addI c = none → fX12_sumSign c h = -1) := by
  by_cases c1 : c = 42
  · subst c1
    rw [show mulI 42 = some 2 by decide]
    refine ⟨fun i q => ?_, fun q => (by cases q), fun q => (by cases q)⟩
    rw [← Option.some.inj q]
    rfl
  by_cases c2 : c = 47
  · subst c2
    rw [show mulI 47 = some 3 by decide]
    refine ⟨fun i q => ?_, fun q => (by cases q), fun q => (by cases q)⟩
    rw [← Option.some.inj q]
    rfl
  by_cases c3 : c = 37
  · subst c3
    rw [show mulI 37 = some 4 by decide]
    refine ⟨fun i q => ?_, fun q => (by cases q), fun q => (by cases q)⟩
    rw [← Option.some.inj q]
    rfl
  by_cases c4 : c = 43
  · subst c4
    rw [show mulI 43 = none by decide, show addI 43 = some 0 by decide]
    refine ⟨fun i q => (by cases q), fun _ i q => ?_, fun _ q => (by cases q)⟩
    rw [← Option.some.inj q]
    rfl
  by_cases c5 : c = 45
  · subst c5
    rw [show mulI 45 = none by decide, show addI 45 = some 1 by decide]
    refine ⟨fun i q => (by cases q), fun _ i q => ?_, fun _ q => (by cases q)⟩
    rw [← Option.some.inj q]
    rfl
  have m0 : mulI c = none := by unfold mulI; rw [if_neg c1, if_neg c2, if_neg c3]
  have a0 : addI c = none := by unfold addI; rw [if_neg c4, if_neg c5]
  rw [m0, a0]
  refine ⟨fun i q => (by cases q), fun _ i q => (by cases q), fun _ _ => ?_⟩
  unfold fX12_sumSign
  rw [if_neg c4, if_neg c5, if_neg c1, if_neg c2, if_neg c3]
section ModelSum
variable {B : Nat → Int32} {n : Nat}
def FtM (h : AH) (f : Nat) (o : Option (Int32 × AH)) : Prop := ∃ g, o = some (0, g) ∧ LMf h g ∧ g.1 75 13 = -(nI f)
theorem FtM.tr {h g : AH} {f : Nat} {o : Option (Int32 × AH)} (l : LMf h g) (x : FtM g f o) : FtM h f o := by
  obtain ⟨k, a, b, c⟩ := x
  exact ⟨k, a, l.tr b, c⟩
theorem ft_at {h : AH} {a p : Nat} (e : h.1 75 11 = nI p) : FtM h (1000 * a + p) (letT (fX12_wrongAt (nI a) (h.1 75 11) h) (fun b15 => if b15.1 = 0 ∨ b15.1 = 1 then some (b15.1, b15.2) else none)) := by
  rw [e, wrongAt_eq, letT_eq, if_pos (Or.inl rfl)]
  exact ⟨_, rfl, LMf.at (by decide), by rw [sI_at, upd_at]⟩
theorem num5_eq {K : AH → Option (Int32 × AH)} {fr o : Nat} {A : Cd} {W : Wt} (t : Txt B n) (hf : fr < 1000) (hK : K = fun (g10 : AH) => letT (fX12_wrongAt (2 : Int32) (g10.1 75 11) g10) (fun b11 => if b11.1 = 0 ∨ b11.1 = 1 then some (b11.1, b11.2) else none)) : ∀ (k p v x2 m : Nat) (h : AH), x2 + k = 5 → p = fr + x2 → k < m → St5 B n p A W o h → h.1 75 14 = nI v → v < 10 ^ x2 →
    (∀ f, pN5 B k p v = .inl f → FtM h f (fX12_readsNumber_l10 K (nI fr) m h)) ∧ ∀ w q, pN5 B k p v = .inr (w, q) → ∃ g, fX12_readsNumber_l10 K (nI fr) m h = some (1, g) ∧ LMf h g ∧ St5 B n q A W o g ∧ g.1 75 14 = nI w := by
  have n200 := t.1
  intro k
  induction k with
  | zero =>
    intro p v x2 m h hx h1 h2 s e14 hv
    obtain ⟨m, rfl⟩ : ∃ m', m = m' + 1 := ⟨m - 1, by omega⟩
    have pn := s.2.2.1
    have un : fX12_readsNumber_l10 K (nI fr) (m + 1) h = fX12_readsNumber_l10b (fX12_readsNumber_l10 K (nI fr) m) K (nI fr) h := rfl
    rw [un]
    unfold fX12_readsNumber_l10b pN5
    rw [isDigit_eq t s.1 s.2.1 pn, ob]
    cases ed : dg (B p) with
    | none =>
      refine ⟨fun f z => (by cases z), fun w q z => ?_⟩
      injection Sum.inr.inj z with z1 z2
      subst z1 z2
      exact ⟨h, rfl, .rf, s, e14⟩
    | some d =>
      simp only [Option.isNone, Bool.false_eq_true, if_false, d10]
      rw [s.2.1, show (5 : Int32) = nI 5 from rfl, nI_add, if_pos (show nI p = nI (fr + 5) by rw [h1, show x2 = 5 by omega])]
      refine ⟨fun f z => ?_, fun w q z => (by cases z)⟩
      rw [← Sum.inl.inj z, hK]
      exact ft_at (a := 2) s.2.1
  | succ k ih =>
    intro p v x2 m h hx h1 h2 s e14 hv
    obtain ⟨m, rfl⟩ : ∃ m', m = m' + 1 := ⟨m - 1, by omega⟩
    have pn := s.2.2.1
    have un : fX12_readsNumber_l10 K (nI fr) (m + 1) h = fX12_readsNumber_l10b (fX12_readsNumber_l10 K (nI fr) m) K (nI fr) h := rfl
    rw [un]
    unfold fX12_readsNumber_l10b pN5
    rw [isDigit_eq t s.1 s.2.1 pn, ob]
    cases ed : dg (B p) with
    | none =>
      refine ⟨fun f z => (by cases z), fun w q z => ?_⟩
      injection Sum.inr.inj z with z1 z2
      subst z1 z2
      exact ⟨h, rfl, .rf, s, e14⟩
    | some d =>
      have l1 := t.dig ed
      have d9 := (dg_some ed).1
      have lv : v < 100000 := Nat.lt_of_lt_of_le hv (Nat.pow_le_pow_right (n := 10) (i := x2) (j := 5) (by decide) (by omega))
      simp only [Option.isNone, Bool.false_eq_true, if_false, d10]
      rw [s.2.1, show (5 : Int32) = nI 5 from rfl, nI_add, if_neg (ne_lit (by omega) (by omega) (by omega)), here_eq t s.1 s.2.1 pn, ob, letT_eq, letT_eq, e14, (dg_some ed).2.1, show (10 : Int32) = nI 10 from rfl, nI_mul, nI_add, show (48 : Int32) = nI 48 from rfl, nI_sub (by omega), show 10 * v + (48 + d) - 48 = 10 * v + d by omega]
      have e11 : (sI h 75 14 (nI (10 * v + d))).1 75 11 = nI p := by rw [sI_at, upd_ne _ _ (by decide)]; exact s.2.1
      rw [e11, nI_1]
      have s2 := (s.num (v := nI (10 * v + d))).place (q := p + 1) (by omega)
      have f2 : LMf h (sI (sI h 75 14 (nI (10 * v + d))) 75 11 (nI (p + 1))) := (LMf.at (by decide)).tr (LMf.at (by decide))
      have e14' : (sI (sI h 75 14 (nI (10 * v + d))) 75 11 (nI (p + 1))).1 75 14 = nI (10 * v + d) := by rw [sI_at, upd_ne _ _ (by decide), sI_at, upd_at]
      obtain ⟨i1, i2⟩ := ih (p + 1) (10 * v + d) (x2 + 1) m _ (by omega) (by omega) (by omega) s2 e14' (by rw [Nat.pow_succ]; omega)
      refine ⟨fun f z => (i1 f z).tr f2, fun w q z => ?_⟩
      obtain ⟨g, a1, a2, a3, a4⟩ := i2 w q z
      exact ⟨g, a1, f2.tr a2, a3, a4⟩
theorem opens_eq {p o a : Nat} {A : Cd} {W : Wt} {h : AH} (s : St5 B n p A W o h) (hp : p < n) (hn : n ≤ 200) (hW : W.length ≤ p) (ha : a < 15) (ho : o ≤ 6) : (o < 6 → ∃ g, fX12_opens (nI a) h = some (1, g) ∧ LMf h g ∧ St5 B n (p + 1) A (W ++ [(a, 0)]) (o + 1) g) ∧ (¬ o < 6 → FtM h (5000 + p) (fX12_opens (nI a) h)) := by
  unfold fX12_opens
  rw [s.2.2.2.2.2]
  refine ⟨fun o6 => ?_, fun o6 => ?_⟩
  · rw [if_neg (show ¬ nI o = 6 from ne_lit (j := 6) (by omega) (by decide) (by omega)), letT_eq, nI_1]
    have s1 := s.opn (o' := o + 1)
    have f1 : LMf h (sI h 75 24 (nI (o + 1))) := LMf.at (by decide)
    generalize sI h 75 24 (nI (o + 1)) = g1 at s1 f1
    obtain ⟨s2, f2⟩ := s1.push (a := a) (b := 0) ha (by decide)
    have e26 : g1.1 75 26 = nI W.length := s1.2.2.2.2.1.1
    have e26' : (sI g1 92 W.length (nI (1048576 * a + 0))).1 75 26 = nI W.length := by rw [sI_ne _ _ _ (by decide)]; exact e26
    rw [e26, if_neg (gd (show W.length < 220 by omega) (by decide)), nI_clamp (by omega), show (1048576 : Int32) = nI 1048576 from rfl, nI_mul, letT_eq, letT_eq, letT_eq]
    have e0 : nI (1048576 * a) = nI (1048576 * a + 0) := rfl
    rw [e0, e26', nI_1]
    generalize sI (sI g1 92 W.length (nI (1048576 * a + 0))) 75 26 (nI (W.length + 1)) = g2 at s2 f2
    rw [s2.2.1, nI_1]
    exact ⟨_, rfl, (f1.tr f2).tr (LMf.at (by decide)), s2.place (q := p + 1) (by omega)⟩
  · rw [if_pos (show nI o = 6 by rw [show o = 6 by omega]; rfl)]
    exact ft_at (a := 5) s.2.1
def o14 (W : Wt) (i : Nat) : Bool := decide ((W.getD i (0, 0)).1 = 14)
theorem hasOpen14 {p o b : Nat} {A : Cd} {W : Wt} {h : AH} (s : St5 B n p A W o h) (hW : W.length < 220) (hb : b ≤ W.length) : fX12_hasOpenSum (nI b) h = some (if (fst (o14 W) b (W.length - b)).isNone then 0 else 1) := by
  obtain ⟨w1, w2⟩ := s.2.2.2.2.1
  unfold fX12_hasOpenSum
  have k := for_fst (F := fun m xx => fX12_hasOpenSum_l2 h m xx) (o14 W) (fun _ => some (1 : Int32)) (some (0 : Int32)) W.length (by omega) (fun m i hi => by
      show fX12_hasOpenSum_l2b (fX12_hasOpenSum_l2 h m) h (nI i) = _
      unfold fX12_hasOpenSum_l2b
      obtain ⟨a, b', e⟩ : ∃ a b', W[i]? = some (a, b') := ⟨W[i].1, W[i].2, by rw [List.getElem?_eq_getElem hi]⟩
      obtain ⟨v1, v2, v3⟩ := w2 i a b' e
      rw [w1, if_pos (nI_lt hi (by omega)), if_neg (gd (show i < 220 by omega) (by decide)), nI_clamp (by omega), v1, (mword (by omega) (by omega)).1, nI_1]
      unfold o14
      rw [List.getD_eq_getElem?_getD, e, Option.getD_some]
      by_cases q : a = 14
      · rw [if_pos (show nI a = 14 by rw [q]; rfl), decide_eq_true q]; rfl
      · rw [if_neg (show ¬ nI a = 14 from ne_lit (j := 14) (by omega) (by decide) q), decide_eq_false q]; rfl) (fun m => by
      show fX12_hasOpenSum_l2b (fX12_hasOpenSum_l2 h m) h (nI W.length) = _
      unfold fX12_hasOpenSum_l2b
      rw [w1, if_neg (nI_nlt (Nat.le_refl _) (by omega))]) fuel0 b hb (by have := fuel_big; omega)
  refine Eq.trans k ?_
  cases fst (o14 W) b (W.length - b) <;> rfl
/-- an atom -/
noncomputable def kA : AH → Option (Int32 × AH) := fun (g30 : AH) =>
        (fX12_isDigit g30).bind (fun b31 =>
        if b31 = 0 then
          (fX12_here g30).bind (fun b34 =>
          letT (fX12_factOf b34 g30) (fun v36 =>
          if v36 = (-1 : Int32) then
            letT (fX12_wrongAt (1 : Int32) (g30.1 75 11) g30) (fun b41 =>
            if b41.1 = 0 ∨ b41.1 = 1 then some (b41.1, b41.2) else none)
          else
            (fX12_notes (1 : Int32) v36 g30).bind (fun b38 =>
            letT (sI b38 75 11 ((b38.1 75 11) + (1 : Int32))) (fun g40 =>
            some ((1 : Int32), g40)))))
        else
          (fX12_readsNumber g30).bind (fun b43 =>
          if b43.1 = 0 then
            some ((0 : Int32), b43.2)
          else
            (fX12_notes (0 : Int32) (b43.2.1 75 14) b43.2).bind (fun b46 =>
            some ((1 : Int32), b46))))
theorem factor_l0 (h : AH) : fX12_readsFactor h = fX12_readsFactor_l0 kA (fuel0 + 1) h := rfl
def pAt (B : Nat → Int32) (p : Nat) (A : Cd) : Rs (Cd × Nat) := match dg (B p) with
    | some _ => (match pN5 B 5 p 0 with | .inl f => .inl f | .inr (v, q) => .inr (A ++ [(0, v)], q))
    | none => (match fct (B p) with | none => .inl (1000 + p) | some i => .inr (A ++ [(1, i)], p + 1))
theorem atom_eq {p o : Nat} {A : Cd} {W : Wt} {h : AH} (t : Txt B n) (s : St5 B n p A W o h) (hA : A.length < 220) : (∀ f, pAt B p A = .inl f → FtM h f (kA h)) ∧ ∀ A' q, pAt B p A = .inr (A', q) → ∃ g, kA h = some (1, g) ∧ LMf h g ∧ St5 B n q A' W o g := by
  have n200 := t.1
  have pn := s.2.2.1
  unfold kA pAt
  rw [isDigit_eq t s.1 s.2.1 pn, ob]
  cases ed : dg (B p) with
  | none =>
    simp only [Option.isNone, if_true]
    rw [here_eq t s.1 s.2.1 pn, ob, letT_eq, factOf_eq]
    cases ef : fct (B p) with
    | none =>
      rw [if_pos (show (none : Option Nat).elim (-1 : Int32) nI = -1 from rfl)]
      refine ⟨fun f z => ?_, fun A' q z => (by cases z)⟩
      rw [← Sum.inl.inj z]
      exact ft_at (a := 1) s.2.1
    | some i =>
      obtain ⟨l1, i8⟩ := fct_ok t ef
      rw [if_neg (show ¬ (some i).elim (-1 : Int32) nI = -1 from fun q => nI_pos (n := i) (by omega) (by rw [show (some i).elim (-1 : Int32) nI = nI i from rfl] at q; rw [q]; decide))]
      obtain ⟨g, e, s1, f1, -⟩ := notes_eq (op := 1) (k := i) (m := 1) s hA (by decide) (by omega) rfl
      have e' : fX12_notes (1 : Int32) ((some i).elim (-1) nI) h = some g := e
      rw [e', ob, letT_eq, s1.2.1, nI_1]
      refine ⟨fun f z => (by cases z), fun A' q z => ?_⟩
      injection Sum.inr.inj z with z1 z2
      subst z1 z2
      exact ⟨_, rfl, f1.tr (LMf.at (by decide)), s1.place (q := p + 1) (by omega)⟩
  | some d =>
    simp only [Option.isNone, Bool.false_eq_true, if_false, d10]
    unfold fX12_readsNumber
    rw [letT_eq, s.2.1]
    have s0 := s.num (v := 0)
    have f0 : LMf h (sI h 75 14 0) := LMf.at (by decide)
    obtain ⟨j1, j2⟩ := num5_eq (fr := p) (K := fun (g10 : AH) => letT (fX12_wrongAt (2 : Int32) (g10.1 75 11) g10) (fun b11 => if b11.1 = 0 ∨ b11.1 = 1 then some (b11.1, b11.2) else none)) t (by omega) rfl 5 p 0 0 fuel0 (sI h 75 14 0) rfl rfl (by have := fuel_big; omega) s0 (by rw [sI_at, upd_at]; rfl) (by decide)
    cases e5 : pN5 B 5 p 0 with
    | inl f0' =>
      obtain ⟨g, a1, a2, a3⟩ := j1 f0' e5
      rw [a1, ob, if_pos rfl]
      refine ⟨fun f z => ?_, fun A' q z => (by cases z)⟩
      rw [← Sum.inl.inj z]
      exact ⟨g, rfl, f0.tr a2, a3⟩
    | inr wq =>
      obtain ⟨w, q⟩ := wq
      obtain ⟨g, a1, a2, a3, a4⟩ := j2 w q e5
      have w5 := (pN5_lt (w := w) (q := q) t ed e5).2.2
      rw [a1, ob, if_neg d10', a4]
      obtain ⟨g', e, s1, f1, -⟩ := notes_eq (op := 0) (k := w) (m := 0) a3 hA (by decide) w5 rfl
      have e' : fX12_notes (0 : Int32) (nI w) g = some g' := e
      rw [e', ob]
      refine ⟨fun f z => (by cases z), fun A' q z => ?_⟩
      injection Sum.inr.inj z with z1 z2
      subst z1 z2
      exact ⟨g', rfl, (f0.tr a2).tr f1, s1⟩
/-- what is done at the end of a sum -/
noncomputable def kS (b : Int32) : AH → Option (Int32 × AH) := fun (g31 : AH) =>
      (fX12_hasOpenSum b g31).bind (fun b32 =>
      if b32 = 0 then
        (fX12_closesSums (1 : Int32) g31).bind (fun b35 =>
        some ((1 : Int32), b35))
      else
        letT (fX12_wrongAt (1 : Int32) (g31.1 75 11) g31) (fun b37 =>
        if b37.1 = 0 ∨ b37.1 = 1 then some (b37.1, b37.2) else none))
/-- from a factor on: to a fault, or to the loop's head behind it -/
def SimM (B : Nat → Int32) (n : Nat) (P : Pr) (lo : Nat) : Prop := ∀ o p A W h b m k, lo ≤ o → o ≤ 6 → St5 B n p A W o h → W.length ≤ p → A.length ≤ p → b ≤ W.length → 20 < k + o → 1000 < m + p →
    (∀ f, P o p A = .inl f → FtM h f ((fX12_readsFactor_l0 kA k h).bind (fun b27 => if b27.1 = 0 then some ((0 : Int32), b27.2) else fX12_readsSum_l14 (kS (nI b)) (nI b) m b27.2))) ∧
    ∀ A' q, P o p A = .inr (A', q) → ∃ g m', (fX12_readsFactor_l0 kA k h).bind (fun b27 => if b27.1 = 0 then some ((0 : Int32), b27.2) else fX12_readsSum_l14 (kS (nI b)) (nI b) m b27.2) = fX12_readsSum_l14 (kS (nI b)) (nI b) m' g ∧ LMf h g ∧ St5 B n q A' W o g ∧ 1000 < m' + q
theorem elpM {pf : Pr} {lo o b : Nat} {V : Wt} (t : Txt B n) (gf : GdP n pf) (SS : SimM B n pf lo) (hlo : lo ≤ o) (ho : o ≤ 6) (tV : topOk V) (hb : b ≤ V.length) : ∀ (k p : Nat) (A : Cd) (Mu S : Option Nat) (m : Nat) (h : AH), n < k + p → St5 B n p A (V ++ sW S ++ sW Mu) o h → (∀ i, S = some i → i ≤ 1) → (∀ i, Mu = some i → 2 ≤ i ∧ i ≤ 4) → V.length + (sW S).length + (sW Mu).length ≤ p → A.length + (sOp Mu).length + (sOp S).length ≤ p → 1000 < m + p →
    (∀ f, pELp B pf o k p (A ++ sOp Mu) S = .inl f → FtM h f (fX12_readsSum_l14 (kS (nI b)) (nI b) m h)) ∧
    ∀ A' q, pELp B pf o k p (A ++ sOp Mu) S = .inr (A', q) → ∃ g m' A2 Mu' S', fX12_readsSum_l14 (kS (nI b)) (nI b) m h = fX12_readsSum_l14 (kS (nI b)) (nI b) m' g ∧ LMf h g ∧ St5 B n q A2 (V ++ sW S' ++ sW Mu') o g ∧ A2 ++ sOp Mu' ++ sOp S' = A' ∧ (∀ i, S' = some i → i ≤ 1) ∧ (∀ i, Mu' = some i → 2 ≤ i ∧ i ≤ 4) ∧ mulI (B q) = none ∧ addI (B q) = none ∧ 1000 < m' + q ∧ V.length + (sW S').length + (sW Mu').length ≤ q ∧ A'.length ≤ q ∧ p ≤ q := by
  have n200 := t.1
  have lsw : ∀ X : Option Nat, (sW X).length = (sOp X).length := fun X => by cases X <;> rfl
  intro k
  induction k with
  | zero =>
    intro p A Mu S m h h1 s
    have := s.2.2.1
    omega
  | succ k ih =>
    intro p A Mu S m h h1 s hS hM hV hA hm
    have pn := s.2.2.1
    obtain ⟨m, rfl⟩ : ∃ m', m = m' + 1 := ⟨m - 1, by omega⟩
    have un : fX12_readsSum_l14 (kS (nI b)) (nI b) (m + 1) h = fX12_readsSum_l14b (fX12_readsSum_l14 (kS (nI b)) (nI b) m) (kS (nI b)) (nI b) h := rfl
    obtain ⟨sg1, sg2, sg3⟩ := sumSign_eq (B p) h
    have rf0 : ∀ g, fX12_readsFactor g = fX12_readsFactor_l0 kA (fuel0 + 1) g := factor_l0
    -- a sign is pushed, a factor read
    have push : ∀ (i : Nat) (g : AH) (A1 : Cd) (W1 : Wt), i < 8 → p < n → St5 B n p A1 W1 o g → W1.length ≤ p → b ≤ W1.length → A1.length ≤ p + 1 → LMf h g → ∃ g2, (if (g.1 75 26) < 0 ∨ 220 ≤ (g.1 75 26).toNatClampNeg then none else letT (sI g 92 (g.1 75 26).toNatClampNeg ((1048576 : Int32) * nI (i + 2))) (fun g24 => letT (sI g24 75 26 ((g24.1 75 26) + (1 : Int32))) (fun g25 => letT (sI g25 75 11 ((g25.1 75 11) + (1 : Int32))) (fun g26 => (fX12_readsFactor g26).bind (fun b27 => if b27.1 = 0 then some ((0 : Int32), b27.2) else fX12_readsSum_l14 (kS (nI b)) (nI b) m b27.2))))) = (fX12_readsFactor_l0 kA (fuel0 + 1) g2).bind (fun b27 => if b27.1 = 0 then some ((0 : Int32), b27.2) else fX12_readsSum_l14 (kS (nI b)) (nI b) m b27.2) ∧ LMf h g2 ∧ St5 B n (p + 1) A1 (W1 ++ [(i + 2, 0)]) o g2 := fun i g A1 W1 hi hp sg hW1 hb1 hA1 lf => by
      obtain ⟨s2, f2⟩ := sg.push (a := i + 2) (b := 0) (by omega) (by decide)
      have e26 : g.1 75 26 = nI W1.length := sg.2.2.2.2.1.1
      have e26' : (sI g 92 W1.length (nI (1048576 * (i + 2) + 0))).1 75 26 = nI W1.length := by rw [sI_ne _ _ _ (by decide)]; exact e26
      rw [e26, if_neg (gd (show W1.length < 220 by omega) (by decide)), nI_clamp (by omega), show (1048576 : Int32) = nI 1048576 from rfl, nI_mul, letT_eq, letT_eq, letT_eq]
      have e0 : nI (1048576 * (i + 2)) = nI (1048576 * (i + 2) + 0) := rfl
      rw [e0, e26', nI_1]
      generalize sI (sI g 92 W1.length (nI (1048576 * (i + 2) + 0))) 75 26 (nI (W1.length + 1)) = g3 at s2 f2
      rw [s2.2.1, nI_1, rf0]
      exact ⟨_, rfl, (lf.tr f2).tr (LMf.at (by decide)), s2.place (q := p + 1) (by omega)⟩
    rw [un]
    unfold fX12_readsSum_l14b pELp
    rw [here_eq t s.1 s.2.1 pn, ob, letT_eq]
    have lS := sW_len S
    have lM := sW_len Mu
    have tail : ∀ (i : Nat) (Mu2 S2 : Option Nat) (A1 : Cd) (g2 : AH), LMf h g2 → St5 B n (p + 1) A1 (V ++ sW S2 ++ sW Mu2) o g2 → (∀ j, S2 = some j → j ≤ 1) → (∀ j, Mu2 = some j → 2 ≤ j ∧ j ≤ 4) → V.length + (sW S2).length + (sW Mu2).length ≤ p + 1 → A1.length + (sOp Mu2).length + (sOp S2).length ≤ p + 1 → p < n →
        (∀ f, (match pf o (p + 1) A1 with | Sum.inl f => (Sum.inl f : Rs (Cd × Nat)) | Sum.inr (A', q) => pELp B pf o k q (A' ++ sOp Mu2) S2) = Sum.inl f → FtM h f ((fX12_readsFactor_l0 kA (fuel0 + 1) g2).bind (fun b27 => if b27.1 = 0 then some ((0 : Int32), b27.2) else fX12_readsSum_l14 (kS (nI b)) (nI b) m b27.2))) ∧
        ∀ A' q, (match pf o (p + 1) A1 with | Sum.inl f => (Sum.inl f : Rs (Cd × Nat)) | Sum.inr (A', q) => pELp B pf o k q (A' ++ sOp Mu2) S2) = Sum.inr (A', q) → ∃ g m' A2 Mu' S', (fX12_readsFactor_l0 kA (fuel0 + 1) g2).bind (fun b27 => if b27.1 = 0 then some ((0 : Int32), b27.2) else fX12_readsSum_l14 (kS (nI b)) (nI b) m b27.2) = fX12_readsSum_l14 (kS (nI b)) (nI b) m' g ∧ LMf h g ∧ St5 B n q A2 (V ++ sW S' ++ sW Mu') o g ∧ A2 ++ sOp Mu' ++ sOp S' = A' ∧ (∀ i, S' = some i → i ≤ 1) ∧ (∀ i, Mu' = some i → 2 ≤ i ∧ i ≤ 4) ∧ mulI (B q) = none ∧ addI (B q) = none ∧ 1000 < m' + q ∧ V.length + (sW S').length + (sW Mu').length ≤ q ∧ A'.length ≤ q ∧ p ≤ q := fun i Mu2 S2 A1 g2 lf s2 hS2 hM2 hV2 hA2 hp => by
      have lW : (V ++ sW S2 ++ sW Mu2).length = V.length + (sW S2).length + (sW Mu2).length := by rw [List.length_append, List.length_append]
      obtain ⟨j1, j2⟩ := SS o (p + 1) A1 (V ++ sW S2 ++ sW Mu2) g2 b m (fuel0 + 1) hlo ho s2 (by omega) (by omega) (by omega) (by have := fuel_big; omega) (by omega)
      cases er : pf o (p + 1) A1 with
      | inl f0 =>
        refine ⟨fun f z => ?_, fun A' q z => (by cases z)⟩
        rw [← Sum.inl.inj z]
        exact (j1 f0 er).tr lf
      | inr Aq =>
        obtain ⟨A', q⟩ := Aq
        obtain ⟨g1, g2', g3, g4, g5⟩ := gf _ _ _ _ _ er
        obtain ⟨g4', m', e', l', s', hm'⟩ := j2 A' q er
        obtain ⟨i1, i2⟩ := ih q A' Mu2 S2 m' g4' (by omega) s' hS2 hM2 (by omega) (by omega) hm'
        dsimp only
        rw [e']
        refine ⟨fun f z => ((i1 f z).tr l').tr lf, fun A'' q' z => ?_⟩
        obtain ⟨g, m2, A2, Mu', S', y1, y2, y3, y4, y5, y6, y7, y8, y9, y10, y11, y12⟩ := i2 A'' q' z
        exact ⟨g, m2, A2, Mu', S', y1, (lf.tr l').tr y2, y3, y4, y5, y6, y7, y8, y9, y10, y11, by omega⟩
    cases em : mulI (B p) with
    | some i =>
      obtain ⟨pn', i2, i4⟩ := mul_in t em
      rw [sg1 i em, if_neg (fun q => nI_pos (n := i + 2) (by omega) (by rw [q]; decide)), letT_eq, if_neg (show ¬ nI (i + 2) < 4 from nI_nlt (b := 4) (by omega) (by omega))]
      dsimp only
      obtain ⟨g, e, s1, f1⟩ := cs_mul s (by omega) (by omega) tV hS hM
      rw [e, ob]
      have lA : (A ++ sOp Mu).length = A.length + (sOp Mu).length := List.length_append
      have lVS : (V ++ sW S).length = V.length + (sW S).length := List.length_append
      obtain ⟨g2, e2, lf, s2⟩ := push i g (A ++ sOp Mu) (V ++ sW S) (by omega) pn' s1 (by omega) (by omega) (by omega) f1
      rw [e2]
      have := tail i (some i) S (A ++ sOp Mu) g2 lf s2 hS (fun j q => by rw [← Option.some.inj q]; omega) (by have : (sW (some i)).length = 1 := rfl; omega) (by have : (sOp (some i)).length = 1 := rfl; omega) pn'
      exact this
    | none =>
      cases ea : addI (B p) with
      | some i =>
        obtain ⟨pn', i1⟩ := add_in t ea
        rw [sg2 em i ea, if_neg (fun q => nI_pos (n := i + 2) (by omega) (by rw [q]; decide)), letT_eq, if_pos (show nI (i + 2) < 4 from nI_lt (b := 4) (by omega) (by decide))]
        dsimp only
        obtain ⟨g, e, s1, f1⟩ := cs_all s (by omega) (by omega) tV hS hM
        rw [e, ob]
        have lA : (A ++ sOp Mu ++ sOp S).length = A.length + (sOp Mu).length + (sOp S).length := by rw [List.length_append, List.length_append]
        obtain ⟨g2, e2, lf, s2⟩ := push i g (A ++ sOp Mu ++ sOp S) V (by omega) pn' s1 (by omega) hb (by omega) f1
        rw [e2]
        have s2' : St5 B n (p + 1) (A ++ sOp Mu ++ sOp S) (V ++ sW (some i) ++ sW none) o g2 := by rw [show V ++ sW (some i) ++ sW none = V ++ [(i + 2, 0)] from List.append_nil _]; exact s2
        have := tail i none (some i) (A ++ sOp Mu ++ sOp S) g2 lf s2' (fun j q => by rw [← Option.some.inj q]; omega) (fun j q => by cases q) (by have : (sW (some i)).length = 1 := rfl; have : (sW none).length = 0 := rfl; omega) (by have : (sOp (some i)).length = 1 := rfl; have : (sOp none).length = 0 := rfl; omega) pn'
        have en : ∀ X : Cd, X ++ sOp none = X := fun X => List.append_nil X
        simp only [en] at this
        exact this
      | none =>
        refine ⟨fun f z => (by cases z), fun A' q z => ?_⟩
        injection Sum.inr.inj z with z1 z2
        subst z1 z2
        refine ⟨h, m + 1, A, Mu, S, ?_, .rf, s, rfl, hS, hM, em, ea, hm, hV, by rw [List.length_append, List.length_append]; omega, Nat.le_refl _⟩
        conv => rhs; rw [un]; unfold fX12_readsSum_l14b; rw [here_eq t s.1 s.2.1 pn, ob, letT_eq]
end ModelSum
