/-! ===== clauses ===== -/
abbrev Cla : Type := Int32 × Nat × Nat × Nat
def ltr (c : Int32) : Prop := c = 114 ∨ c = 116 ∨ c = 119 ∨ c = 99
theorem ltr_amg {c : Int32} : (ltr c → ¬ amg (bytS.getD 0 []) c < 0) ∧ (¬ ltr c → amg (bytS.getD 0 []) c < 0) := by
  constructor
  · rintro (rfl | rfl | rfl | rfl) <;> decide
  · intro h
    refine amg_lt.2 (Or.inr ?_)
    show [114, 116, 119, 99].findIdx? (fun b => b == c) = none
    simp [List.findIdx?_cons, beq_no (fun q => h (Or.inl q)), beq_no (fun q => h (Or.inr (Or.inl q))), beq_no (fun q => h (Or.inr (Or.inr (Or.inl q)))), beq_no (fun q => h (Or.inr (Or.inr (Or.inr q))))]
noncomputable def pVal (B : Nat → Int32) (p : Nat) (A : Cd) : Rs (Cd × Nat) := if B p = nI 114 then .inr (A, p + 1) else pSumD B 8 0 (p + 1) A
noncomputable def pCla (B : Nat → Int32) (j p : Nat) (A : Cd) : Rs (Cla × Cd × Nat) := if pb (ltr (B p)) then (if j = 14 then .inl (4000 + p) else match pVal B p A with
    | .inl f => .inl f
    | .inr (A1, q) => if B q = nI 40 then (match pChoice B (pPieceD B 8) 1 (q + 1) A1 with
      | .inl f => .inl f
      | .inr (A2, r) => if B r = nI 41 then .inr ((B p, A.length, A1.length, A2.length), A2, r + 1) else .inl (1000 + r)) else .inl (1000 + q)) else .inl (1000 + p)
noncomputable def pLaw (B : Nat → Int32) (n : Nat) : Nat → Nat → List Cla → Cd → Rs (List Cla × Cd)
  | 0, _, _, _ => .inl 1
  | k + 1, p, l, A => match pCla B l.length p A with
    | .inl f => .inl f
    | .inr (c, A', q) => if q = n then .inr (l ++ [c], A') else if B q = nI 59 then pLaw B n k (q + 1) (l ++ [c]) A' else .inl (1000 + q)
def LawS (l : List Cla) (A : Cd) : Prop := ∀ (i : Nat) (c : Cla), l[i]? = some c → c.2.1 ≤ c.2.2.1 ∧ c.2.2.2 ≤ A.length ∧ Sgm A c.2.2.1 c.2.2.2 16 true ∧ (¬ c.1 = nI 114 → Sgm A c.2.1 c.2.2.1 15 false)
theorem LawS.ext {l : List Cla} {A A' : Cd} (s : LawS l A) (hl : A.length ≤ A'.length) (pre : ∀ i, i < A.length → A'[i]? = A[i]?) : LawS l A' := by
  intro i c hc
  obtain ⟨s0, s1, s2, s3⟩ := s i c hc
  exact ⟨s0, by omega, s2.same (by omega) (fun p _ hp => pre p (by omega)), fun q => (s3 q).same (by have := s2.1; omega) (fun p _ hp => pre p (by have := s2.1; omega))⟩
section Clauses
variable {B : Nat → Int32} {n : Nat}
theorem pVal_ok {p : Nat} {A A' : Cd} {q : Nat} (t : Txt B n) (hl : ltr (B p)) (h : pVal B p A = .inr (A', q)) : p < q ∧ q ≤ n ∧ A.length ≤ A'.length ∧ A'.length + p + 1 ≤ A.length + q ∧ (∀ i, i < A.length → A'[i]? = A[i]?) ∧ (¬ B p = nI 114 → Sgm A' A.length A'.length 15 false) := by
  have pn : p < n := t.inn (fun q => by rw [q] at hl; exact absurd hl (by unfold ltr; decide))
  unfold pVal at h
  by_cases e : B p = nI 114
  · rw [if_pos e] at h
    injection Sum.inr.inj h with h1 h2
    subst h1
    exact ⟨by omega, by omega, Nat.le_refl _, by omega, fun _ _ => rfl, fun q => absurd e q⟩
  · rw [if_neg e] at h
    obtain ⟨a1, a2, a3, a4, a5⟩ := pSumD_gd t 8 _ _ _ _ _ h
    exact ⟨by omega, a2, by omega, by omega, a5, fun _ => (pSumD_sm t 8 _ _ _ _ _ (by decide) h).deep (by decide)⟩
theorem pCla_ok {j p : Nat} {A A' : Cd} {c : Cla} {q : Nat} (t : Txt B n) (h : pCla B j p A = .inr (c, A', q)) : ¬ j = 14 ∧ ltr (B p) ∧ p < q ∧ q ≤ n ∧ A.length < A'.length ∧ A'.length + p ≤ A.length + q ∧ (∀ i, i < A.length → A'[i]? = A[i]?) ∧ c.1 = B p ∧ c.2.1 = A.length ∧ c.2.2.2 = A'.length ∧ c.2.1 ≤ c.2.2.1 ∧ Sgm A' c.2.2.1 c.2.2.2 16 true ∧ (¬ c.1 = nI 114 → Sgm A' c.2.1 c.2.2.1 15 false) ∧ (c.1 = nI 114 → c.2.2.1 = c.2.1) := by
  unfold pCla at h
  by_cases hl : ltr (B p)
  · rw [pb_t hl, if_pos rfl] at h
    by_cases j14 : j = 14
    · rw [if_pos j14] at h; cases h
    · rw [if_neg j14] at h
      cases e1 : pVal B p A with
      | inl f => rw [e1] at h; cases h
      | inr x =>
        rw [e1] at h
        dsimp only at h
        obtain ⟨v1, v2, v3, v4, v5, v6⟩ := pVal_ok t hl e1
        by_cases c40 : B x.2 = nI 40
        · rw [if_pos c40] at h
          cases e2 : pChoice B (pPieceD B 8) 1 (x.2 + 1) x.1 with
          | inl f => rw [e2] at h; cases h
          | inr y =>
            rw [e2] at h
            dsimp only at h
            obtain ⟨w1, w2, w3, w4, w5⟩ := pChoice_gd t (pPieceD_gd t 8) _ _ _ _ _ e2
            have sc := pChoice_sm t (pPieceD_gd t 8) (pPieceD_sm t 8) _ _ _ _ _ (show 1 ≤ 6 by decide) e2
            by_cases c41 : B y.2 = nI 41
            · rw [if_pos c41] at h
              have ln := t.lit (by decide) c41
              have hh := Sum.inr.inj h
              injection hh with h1 h2
              injection h2 with h2 h3
              subst h1 h2 h3
              refine ⟨j14, hl, by omega, by omega, by omega, by omega, fun i hi => (w5 i (by omega)).trans (v5 i hi), rfl, rfl, rfl, v3, sc, fun q => (v6 q).same (by omega) (fun i _ hi => w5 i hi), fun q => ?_⟩
              unfold pVal at e1
              rw [if_pos q] at e1
              show x.1.length = A.length
              rw [← Sum.inr.inj e1]
            · rw [if_neg c41] at h; cases h
        · rw [if_neg c40] at h; cases h
  · rw [pb_f hl, if_neg (by decide)] at h; cases h
def GFr (h g : AH) : Prop := (∀ c, c ≠ 1 → c < 34 ∨ 39 < c → g.1 c = h.1 c) ∧ (∀ j, j ≠ 2 → j ≠ 3 → j ≠ 4 → g.1 1 j = h.1 1 j) ∧ g.2 = h.2 ∧ g.1 38 0 = h.1 38 0
theorem GFr.tr {h g k : AH} (a : GFr h g) (b : GFr g k) : GFr h k := ⟨fun c h1 h2 => (b.1 c h1 h2).trans (a.1 c h1 h2), fun j h1 h2 h3 => (b.2.1 j h1 h2 h3).trans (a.2.1 j h1 h2 h3), b.2.2.1.trans a.2.2.1, b.2.2.2.trans a.2.2.2⟩
theorem LFr.g {h g : AH} (a : LFr h g) : GFr h g := ⟨fun c h1 h2 => a.1 c h1 (by omega) (by omega), a.2.1, a.2.2.2, by rw [a.1 38 (by decide) (by decide) (by decide)]⟩
/-- a cell of the clauses' rows -/
theorem GFr.put {h : AH} {a : Nat} {i v : Int32} (ha : a = 37 ∨ a = 39) : GFr h (fX11_put a i v h) ∧ (∀ c, c ≠ a → (fX11_put a i v h).1 c = h.1 c) := by
  have e : ∃ r, fX11_put a i v h = sR h a r := by
    unfold fX11_put
    split
    · exact ⟨h.1 a, (sR_self _ _).symm⟩
    · split
      · exact ⟨_, rfl⟩
      · exact ⟨h.1 a, (sR_self _ _).symm⟩
  obtain ⟨r, e⟩ := e
  rw [e]
  exact ⟨⟨fun c _ h2 => sR_ne _ _ (by omega), fun j _ _ _ => by rw [sR_ne _ _ (by omega)], rfl, by rw [sR_ne _ _ (by omega)]⟩, fun c hc => sR_ne _ _ hc⟩
def LawX (g : AH) (l : List Cla) (A : Cd) : Prop := g.1 35 0 = nI l.length ∧ Ask01 g ∧ (∀ (i : Nat) (c : Cla), l[i]? = some c → g.1 37 i = c.1 ∧ g.1 38 i = nI c.2.1 ∧ g.1 39 i = nI c.2.2.1 ∧ g.1 38 (i + 1) = nI c.2.2.2 ∧ c.2.2.2 ≤ A.length) ∧ g.1 38 l.length = nI A.length ∧ (g.1 35 1 = 0 → ∀ (i : Nat) (c : Cla), l[i]? = some c → c.1 = nI 114 → ∀ x, c.2.1 ≤ x → x < c.2.2.2 → A[x]? ≠ some (1, 2))
/-- what is done behind a clause's E -/
noncomputable def lJ (rec : Int32 → AH → Option (Int32 × AH)) (K136 : AH → Option (Int32 × AH)) (x2 : Int32) : AH → Option (Int32 × AH) := fun (g5 : AH) =>
      letT (fX4_openCondition g5) (fun g7 =>
      letT (fX10_expect (40 : Int32) g7) (fun g8 =>
      (fX5_readChoiceD 8 (1 : Int32) g8).bind (fun b9 =>
      letT (fX10_expect (41 : Int32) b9) (fun g11 =>
      letT (fun (g12 : AH) =>
        letT (letT (fX10_expect (59 : Int32) g12) (fun g15 =>
          if (fX10_isSound g15) = 0 then
            K136 g15
          else
            rec (x2 + 1) g15)) (fun J14 =>
        if (fX10_isSound g12) = 0 then
          J14
        else
          if (fX10_isAtEnd g12) = 0 then
            J14
          else
            some (g12.1 35 0, g12))) (fun J13 =>
      if (fX10_isSound g11) = 0 then
        J13 g11
      else
        letT (fX4_closeClause g11) (fun g20 =>
        J13 g20))))))
theorem lJ_end {rec : Int32 → AH → Option (Int32 × AH)} {K : AH → Option (Int32 × AH)} {x2 : Int32} {f : Nat} {g : AH} (x : Fl f g) : ∃ g', letT (fX10_expect (41 : Int32) g) (fun g11 => letT (fun (g12 : AH) => letT (letT (fX10_expect (59 : Int32) g12) (fun g15 => if (fX10_isSound g15) = 0 then K g15 else rec (x2 + 1) g15)) (fun J14 => if (fX10_isSound g12) = 0 then J14 else if (fX10_isAtEnd g12) = 0 then J14 else some (g12.1 35 0, g12))) (fun J13 => if (fX10_isSound g11) = 0 then J13 g11 else letT (fX4_closeClause g11) (fun g20 => J13 g20))) = K g' ∧ Fr1 g g' ∧ Fl f g' := by
  have x1 := x.expect (w := 41)
  have x2' := x1.expect (w := 59)
  rw [letT_eq, letT_eq, x1.sound, if_pos rfl]
  dsimp only
  rw [letT_eq, letT_eq, x1.sound, if_pos rfl, x2'.sound, if_pos rfl]
  exact ⟨_, rfl, (expect_fr _ _).tr (expect_fr _ _), x2'⟩
theorem lJ_fl {rec : Int32 → AH → Option (Int32 × AH)} {K : AH → Option (Int32 × AH)} {x2 : Int32} {f : Nat} {g : AH} (x : Fl f g) : ∃ g', lJ rec K x2 g = K g' ∧ GFr g g' ∧ Fl f g' := by
  unfold lJ fX4_openCondition
  rw [letT_eq, letT_eq, letT_eq]
  obtain ⟨q1, q2⟩ := GFr.put (h := g) (a := 39) (i := g.1 35 0) (v := g.1 35 2) (Or.inr rfl)
  have x1 : Fl f (fX11_put 39 (g.1 35 0) (g.1 35 2) g) := ⟨x.1, x.2.1, by rw [q2 1 (by decide)]; exact x.2.2⟩
  generalize fX11_put 39 (g.1 35 0) (g.1 35 2) g = g7 at q1 q2 x1
  have x3 := x1.expect (w := 40)
  rw [readChoiceD_fl x3, ob]
  obtain ⟨g', e, fr, y⟩ := lJ_end (rec := rec) (K := K) (x2 := x2) x3
  exact ⟨g', e, q1.tr ((expect_fr 40 g7).tr fr).l.g, y⟩
theorem readLaw17 (t : Txt B n) : ∀ (k p m : Nat) (l : List Cla) (A : Cd) (g : AH), l.length + k = 15 → l.length ≤ 14 → k < m → Tx B n g → Sd B n p g → CodX g A → A.length ≤ p → LawX g l A →
    (∀ f, pLaw B n k p l A = .inl f → ∃ g', fX5_readLaw_l17 (fun (g24 : AH) => some (-(g24.1 1 4), g24)) (fun (g25 : AH) => some (-(g25.1 1 4), g25)) m (nI l.length) g = some (-(nI f), g') ∧ GFr g g' ∧ 0 < f ∧ f < 100000) ∧
    ∀ l' A', pLaw B n k p l A = .inr (l', A') → ∃ g', fX5_readLaw_l17 (fun (g24 : AH) => some (-(g24.1 1 4), g24)) (fun (g25 : AH) => some (-(g25.1 1 4), g25)) m (nI l.length) g = some (nI l'.length, g') ∧ GFr g g' ∧ CodX g' A' ∧ LawX g' l' A' := by
  have n200 := t.1
  intro k
  induction k with
  | zero => intro p m l A g h1 h2; omega
  | succ k ih =>
    intro p m l A g h1 h2 h3 x s c hA hX
    obtain ⟨m, rfl⟩ : ∃ m', m = m' + 1 := ⟨m - 1, by omega⟩
    have p200 := s.1
    generalize hK : (fun (g24 : AH) => (some (-(g24.1 1 4), g24) : Option (Int32 × AH))) = K at ih ⊢
    have kf : ∀ f g', Fl f g' → K g' = some (-(nI f), g') := fun f g' y => by rw [← hK]; dsimp only; rw [y.2.2]
    have un : fX5_readLaw_l17 K K (m + 1) (nI l.length) g = letT (fX5_readLetter (nI l.length) g) (fun g4 => letT (lJ (fX5_readLaw_l17 K K m) K (nI l.length)) (fun J6 => if (g4.1 34 2) = (114 : Int32) then J6 g4 else (fX5_readSumD 8 (0 : Int32) g4).bind (fun b22 => J6 b22))) := by
      show fX5_readLaw_l17b (fX5_readLaw_l17 K K m) K K (nI l.length) g = _
      unfold fX5_readLaw_l17b
      rw [if_neg (show ¬ (14 : Int32) < nI l.length from nI_nlt (a := 14) h2 (by omega))]
      unfold lJ
      rfl
    rw [un, letT_eq, letT_eq]
    obtain ⟨X1, X2, X3, X4, X5⟩ := hX
    -- in a fault all the rest is passed
    have fault : ∀ f g4, Fl f g4 → ∃ g', (if (g4.1 34 2) = (114 : Int32) then lJ (fX5_readLaw_l17 K K m) K (nI l.length) g4 else (fX5_readSumD 8 (0 : Int32) g4).bind (fun b22 => lJ (fX5_readLaw_l17 K K m) K (nI l.length) b22)) = some (-(nI f), g') ∧ GFr g4 g' := fun f g4 y => by
      rw [readSumD_fl y, ob, ite_self]
      obtain ⟨g', e, fr, y'⟩ := lJ_fl (rec := fX5_readLaw_l17 K K m) (K := K) (x2 := nI l.length) y
      exact ⟨g', e.trans (kf f g' y'), fr⟩
    -- the letter
    have lett : ∀ g1, Fr1 g g1 → (∃ g4, letT (sI g1 34 2 (g1.1 1 3)) (fun g3 => letT (fX10_step g3) (fun g4 => letT (fX4_openClause (g4.1 34 2) g4) (fun g5 => g5))) = g4 ∧ GFr g g4 ∧ (∀ c, c ≠ 1 → c ≠ 34 → c ≠ 37 → g4.1 c = g.1 c) ∧ g4.1 1 = (fX10_step (sI g1 34 2 (g1.1 1 3))).1 1 ∧ g4.1 34 2 = g1.1 1 3 ∧ g4.1 37 = upd (g.1 37) l.length (g1.1 1 3)) ∨ (14 ≤ l.length ∧ ∃ g4, letT (sI g1 34 2 (g1.1 1 3)) (fun g3 => letT (fX10_step g3) (fun g4 => letT (fX4_openClause (g4.1 34 2) g4) (fun g5 => g5))) = g4 ∧ GFr g g4 ∧ g4.1 1 = (fX10_step (sI g1 34 2 (g1.1 1 3))).1 1) := fun g1 f1 => by
      unfold fX4_openClause
      rw [letT_eq, letT_eq, letT_eq, letT_eq]
      have f2 := (step_fr (sI g1 34 2 (g1.1 1 3))).1
      have e34 : (fX10_step (sI g1 34 2 (g1.1 1 3))).1 34 2 = g1.1 1 3 := by rw [f2.1 34 (by decide), sI_at, upd_at]
      have e35 : (fX10_step (sI g1 34 2 (g1.1 1 3))).1 35 0 = nI l.length := by rw [f2.1 35 (by decide), sI_ne _ _ _ (by decide), f1.1 35 (by decide)]; exact X1
      obtain ⟨q1, q2⟩ := GFr.put (h := fX10_step (sI g1 34 2 (g1.1 1 3))) (a := 37) (i := (fX10_step (sI g1 34 2 (g1.1 1 3))).1 35 0) (v := (fX10_step (sI g1 34 2 (g1.1 1 3))).1 34 2) (Or.inl rfl)
      have gf0 : GFr g1 (sI g1 34 2 (g1.1 1 3)) := ⟨fun c _ h2 => sI_ne _ _ _ (by omega), fun j _ _ _ => by rw [sI_ne _ _ _ (by decide)], rfl, by rw [sI_ne _ _ _ (by decide)]⟩
      have gf : GFr g (fX11_put 37 ((fX10_step (sI g1 34 2 (g1.1 1 3))).1 35 0) ((fX10_step (sI g1 34 2 (g1.1 1 3))).1 34 2) (fX10_step (sI g1 34 2 (g1.1 1 3)))) := ((f1.l.g.tr gf0).tr f2.l.g).tr q1
      by_cases l14 : l.length < 14
      · refine Or.inl ⟨_, rfl, gf, fun c y1 y2 y3 => ?_, q2 1 (by decide), ?_, ?_⟩
        · rw [q2 c y3, f2.1 c y1, sI_ne _ _ _ y2, f1.1 c y1]
        · rw [q2 34 (by decide)]; exact e34
        · rw [e34, e35, put_in (show l.length < aln 37 from l14), sI_at, f2.1 37 (by decide), sI_ne _ _ _ (by decide), f1.1 37 (by decide)]
      · exact Or.inr ⟨by omega, _, rfl, gf, q2 1 (by decide)⟩
    have lett1 : ∀ g1, Fr1 g g1 → ∀ f, Fl f g1 → ∃ g4, letT (sI g1 34 2 (g1.1 1 3)) (fun g3 => letT (fX10_step g3) (fun g4 => letT (fX4_openClause (g4.1 34 2) g4) (fun g5 => g5))) = g4 ∧ GFr g g4 ∧ Fl f g4 := fun g1 f1 f y => by
      have y1 : Fl f (sI g1 34 2 (g1.1 1 3)) := ⟨y.1, y.2.1, by rw [sI_ne _ _ _ (by decide)]; exact y.2.2⟩
      rcases lett g1 f1 with ⟨g4, e, gf, -, e1, -⟩ | ⟨-, g4, e, gf, e1⟩
      · exact ⟨g4, e, gf, y1.step.1, y1.step.2.1, by rw [e1]; exact y1.step.2.2⟩
      · exact ⟨g4, e, gf, y1.step.1, y1.step.2.1, by rw [e1]; exact y1.step.2.2⟩
    unfold pLaw pCla
    have rl : fX5_readLetter (nI l.length) g = (fun (g1 : AH) => letT (sI g1 34 2 (g1.1 1 3)) (fun g3 => letT (fX10_step g3) (fun g4 => letT (fX4_openClause (g4.1 34 2) g4) (fun g5 => g5)))) (if amg (bytS.getD 0 []) (B p) < 0 then fX10_failHere g else if nI l.length = (14 : Int32) then fX10_fail (4 : Int32) (nI p) g else g) := by
      unfold fX5_readLetter
      rw [letT_eq, (s.among t), s.2.1]
      by_cases q1 : amg (bytS.getD 0 []) (B p) < 0
      · rw [if_pos q1, if_pos q1, letT_eq]
      · rw [if_neg q1, if_neg q1]
        by_cases q2 : nI l.length = 14
        · rw [if_pos q2, if_pos q2, letT_eq]
        · rw [if_neg q2, if_neg q2]
    by_cases hl : ltr (B p)
    · rw [if_neg (ltr_amg.1 hl)] at rl
      rw [pb_t hl, if_pos rfl]
      have pn : p < n := t.inn (fun q => by rw [q] at hl; exact absurd hl (by unfold ltr; decide))
      by_cases l14 : l.length = 14
      · rw [if_pos (show nI l.length = 14 by rw [l14]; rfl)] at rl
        rw [if_pos l14]
        have y := s.fail (a := 4) (b := p) (by decide) (by decide) (by omega)
        rw [show nI 4 = 4 from rfl] at y
        obtain ⟨g4, e4, gf, y4⟩ := lett1 _ (fail_fr 4 (nI p) g) _ y
        rw [rl.trans e4]
        obtain ⟨g', e', gf'⟩ := fault _ g4 y4
        refine ⟨fun f z => ?_, fun l' A' z => (by cases z)⟩
        rw [← Sum.inl.inj z]
        exact ⟨g', e', gf.tr gf', by omega, by omega⟩
      · have ll : l.length < 14 := by omega
        rw [if_neg (show ¬ nI l.length = 14 from ne_lit (j := 14) (by omega) (by decide) l14)] at rl
        rw [if_neg l14]
        rcases lett g .rf with ⟨g4, e4, gf, gc, e1, e34, e37⟩ | ⟨q, -⟩
        · rw [rl.trans e4]
          have sI34 : Sd B n p (sI g 34 2 (g.1 1 3)) := s.add (sI_ne _ _ _ (by decide))
          have x34 : Tx B n (sI g 34 2 (g.1 1 3)) := by unfold Tx; rw [sI_ne _ _ _ (by decide), sI_ne _ _ _ (by decide)]; exact x
          have s4 : Sd B n (p + 1) g4 := (step_sd t x34 sI34 pn).add e1
          have x4 : Tx B n g4 := by
            unfold Tx
            rw [gf.2.1 5 (by decide) (by decide) (by decide), gc 2 (by decide) (by decide) (by decide)]
            exact x
          have c4 : CodX g4 A := by unfold CodX; rw [gc 35 (by decide) (by decide) (by decide), gc 36 (by decide) (by decide) (by decide)]; exact c
          have k4 : Ask01 g4 := by unfold Ask01; rw [gc 35 (by decide) (by decide) (by decide)]; exact X2
          rw [s.2.2.1] at e34 e37
          -- the value's E
          have val : ∃ g5, (if (g4.1 34 2) = (114 : Int32) then lJ (fX5_readLaw_l17 K K m) K (nI l.length) g4 else (fX5_readSumD 8 (0 : Int32) g4).bind (fun b22 => lJ (fX5_readLaw_l17 K K m) K (nI l.length) b22)) = lJ (fX5_readLaw_l17 K K m) K (nI l.length) g5 ∧ LFr g4 g5 ∧ (∀ f, pVal B p A = .inl f → Fl f g5) ∧ ∀ A1 q, pVal B p A = .inr (A1, q) → Sd B n q g5 ∧ CodX g5 A1 ∧ AskX g4 g5 A A1 := by
            unfold pVal
            rw [e34]
            by_cases r : B p = nI 114
            · rw [if_pos (show B p = 114 from r), if_pos r]
              refine ⟨g4, rfl, .rf, fun f z => (by cases z), fun A1 q z => ?_⟩
              injection Sum.inr.inj z with z1 z2
              subst z1 z2
              exact ⟨s4, c4, AskX.rf k4⟩
            · rw [if_neg (show ¬ B p = 114 from r), if_neg r]
              obtain ⟨g5, e5, l5, o1, o2⟩ := readSumD_sim t 8 0 (p + 1) A g4 (by decide) (by decide) x4 s4 c4 k4 (by omega)
              rw [show (0 : Int32) = nI 0 from rfl, e5, ob]
              exact ⟨g5, rfl, l5, o1, o2⟩
          obtain ⟨g5, e5, l5, o1, o2⟩ := val
          rw [e5]
          cases ev : pVal B p A with
          | inl f0 =>
            have y := o1 f0 ev
            obtain ⟨g', e', fr, y'⟩ := lJ_fl (rec := fX5_readLaw_l17 K K m) (K := K) (x2 := nI l.length) y
            refine ⟨fun f z => ?_, fun l' A' z => (by cases z)⟩
            rw [← Sum.inl.inj z]
            exact ⟨g', e'.trans (kf _ _ y'), (gf.tr l5.g).tr fr, y.1, y.2.1⟩
          | inr v =>
            obtain ⟨A1, q⟩ := v
            obtain ⟨v1, v2, v3, v4, v5, v6⟩ := pVal_ok t hl ev
            obtain ⟨s5, c5, a5⟩ := o2 A1 q ev
            dsimp only
            unfold lJ fX4_openCondition
            rw [letT_eq, letT_eq, letT_eq]
            obtain ⟨q1, q2⟩ := GFr.put (h := g5) (a := 39) (i := g5.1 35 0) (v := g5.1 35 2) (Or.inr rfl)
            have e350 : g5.1 35 0 = nI l.length := by rw [l5.2.2.1, gc 35 (by decide) (by decide) (by decide)]; exact X1
            have e39 : (fX11_put 39 (g5.1 35 0) (g5.1 35 2) g5).1 39 = upd (g5.1 39) l.length (nI A1.length) := by rw [e350, c5.1, put_in (show l.length < aln 39 from ll), sI_at]
            generalize fX11_put 39 (g5.1 35 0) (g5.1 35 2) g5 = g7 at q1 q2 e39
            have s7 : Sd B n q g7 := s5.add (q2 1 (by decide))
            have x7 : Tx B n g7 := by unfold Tx; rw [q2 1 (by decide), q2 2 (by decide)]; exact x4.frL l5
            have c7 : CodX g7 A1 := by unfold CodX; rw [q2 35 (by decide), q2 36 (by decide)]; exact c5
            have k7 : Ask01 g7 := by unfold Ask01; rw [q2 35 (by decide)]; exact a5.1
            have gf7 : GFr g g7 := (gf.tr l5.g).tr q1
            obtain ⟨ex1, ex2⟩ := s7.expect (k := 40) t x7 (by decide)
            rw [show nI 40 = 40 from rfl] at ex1 ex2
            have f8 := expect_fr 40 g7
            by_cases c40 : B q = nI 40
            · rw [if_pos c40]
              have s8 := ex1 c40
              have x8 := x7.fr f8
              obtain ⟨g9, e9, l9, i1, i2⟩ := readChoiceD_sim t 1 (q + 1) A1 (fX10_expect 40 g7) (by decide) (by decide) x8 s8 (c7.fr f8) (by unfold Ask01; rw [f8.1 35 (by decide)]; exact k7) (by omega)
              have e9' : fX5_readChoiceD 8 (1 : Int32) (fX10_expect 40 g7) = some g9 := e9
              rw [e9', ob]
              have gf9 : GFr g g9 := (gf7.tr f8.l.g).tr l9.g
              cases ec : pChoice B (pPieceD B 8) 1 (q + 1) A1 with
              | inl f0 =>
                have y := i1 f0 ec
                obtain ⟨g', e', fr, y'⟩ := lJ_end (rec := fX5_readLaw_l17 K K m) (K := K) (x2 := nI l.length) y
                refine ⟨fun f z => ?_, fun l' A' z => (by cases z)⟩
                rw [← Sum.inl.inj z]
                exact ⟨g', e'.trans (kf _ _ y'), gf9.tr fr.l.g, y.1, y.2.1⟩
              | inr w =>
                obtain ⟨A2, r⟩ := w
                obtain ⟨s9, c9, a9⟩ := i2 A2 r ec
                obtain ⟨w1, w2, w3, w4, w5⟩ := pChoice_gd t (pPieceD_gd t 8) _ _ _ _ _ ec
                have x9 := x8.frL l9
                obtain ⟨ey1, ey2⟩ := s9.expect (k := 41) t x9 (by decide)
                rw [show nI 41 = 41 from rfl] at ey1 ey2
                dsimp only
                by_cases c41 : B r = nI 41
                · rw [if_pos c41, letT_eq, letT_eq]
                  have r1 := t.lit (by decide) c41
                  have s11 := ey1 c41
                  have f11 := expect_fr 41 g9
                  rw [s11.sound, if_neg d10']
                  unfold fX4_closeClause
                  rw [letT_eq, letT_eq, letT_eq]
                  -- the clause is closed
                  have c11 := c9.fr f11
                  generalize fX10_expect 41 g9 = g11 at s11 f11 c11
                  have e11 : g11.1 35 0 = nI l.length := by rw [f11.1 35 (by decide), l9.2.2.1, f8.1 35 (by decide), q2 35 (by decide)]; exact e350
                  have e20 : (sI g11 35 0 (g11.1 35 0 + 1)).1 35 0 = nI (l.length + 1) := by rw [sI_at, upd_at, e11, nI_1]
                  have e20' : (sI g11 35 0 (g11.1 35 0 + 1)).1 35 2 = nI A2.length := by rw [sI_at, upd_ne _ _ (by decide)]; exact c11.1
                  rw [e20, e20', put_in (show l.length + 1 < aln 38 by show _ < 15; omega)]
                  have h38 : (sI (sI g11 35 0 (g11.1 35 0 + 1)) 38 (l.length + 1) (nI A2.length)).1 38 = upd (g.1 38) (l.length + 1) (nI A2.length) := by
                    rw [sI_at, sI_ne _ _ _ (by decide), f11.1 38 (by decide), l9.1 38 (by decide) (by decide) (by decide), f8.1 38 (by decide), q2 38 (by decide), l5.1 38 (by decide) (by decide) (by decide), gc 38 (by decide) (by decide) (by decide)]
                  have hc : ∀ c, c ≠ 1 → c ≠ 34 → c ≠ 35 → c ≠ 36 → c ≠ 37 → c ≠ 38 → c ≠ 39 → (sI (sI g11 35 0 (g11.1 35 0 + 1)) 38 (l.length + 1) (nI A2.length)).1 c = g.1 c := fun c y1 y2 y3 y4 y5 y6 y7 => by
                    rw [sI_ne _ _ _ y6, sI_ne _ _ _ y3, f11.1 c y1, l9.1 c y1 y3 y4, f8.1 c y1, q2 c y7, l5.1 c y1 y3 y4, gc c y1 y2 y5]
                  have h37 : (sI (sI g11 35 0 (g11.1 35 0 + 1)) 38 (l.length + 1) (nI A2.length)).1 37 = upd (g.1 37) l.length (B p) := by
                    rw [sI_ne _ _ _ (by decide), sI_ne _ _ _ (by decide), f11.1 37 (by decide), l9.1 37 (by decide) (by decide) (by decide), f8.1 37 (by decide), q2 37 (by decide), l5.1 37 (by decide) (by decide) (by decide)]
                    exact e37
                  have h39 : (sI (sI g11 35 0 (g11.1 35 0 + 1)) 38 (l.length + 1) (nI A2.length)).1 39 = upd (g.1 39) l.length (nI A1.length) := by
                    rw [sI_ne _ _ _ (by decide), sI_ne _ _ _ (by decide), f11.1 39 (by decide), l9.1 39 (by decide) (by decide) (by decide), f8.1 39 (by decide), e39, l5.1 39 (by decide) (by decide) (by decide), gc 39 (by decide) (by decide) (by decide)]
                  have h350 : (sI (sI g11 35 0 (g11.1 35 0 + 1)) 38 (l.length + 1) (nI A2.length)).1 35 0 = nI (l.length + 1) := by rw [sI_ne _ _ _ (by decide)]; exact e20
                  have h351 : (sI (sI g11 35 0 (g11.1 35 0 + 1)) 38 (l.length + 1) (nI A2.length)).1 35 1 = g9.1 35 1 := by rw [sI_ne _ _ _ (by decide), sI_at, upd_ne _ _ (by decide), f11.1 35 (by decide)]
                  have h1 : (sI (sI g11 35 0 (g11.1 35 0 + 1)) 38 (l.length + 1) (nI A2.length)).1 1 = g11.1 1 := by rw [sI_ne _ _ _ (by decide), sI_ne _ _ _ (by decide)]
                  have h2' : (sI (sI g11 35 0 (g11.1 35 0 + 1)) 38 (l.length + 1) (nI A2.length)).1 2 = g11.1 2 := by rw [sI_ne _ _ _ (by decide), sI_ne _ _ _ (by decide)]
                  have hcod : CodX (sI (sI g11 35 0 (g11.1 35 0 + 1)) 38 (l.length + 1) (nI A2.length)) A2 := by
                    unfold CodX
                    rw [sI_ne _ _ _ (show 35 ≠ 38 by decide), sI_ne _ _ _ (show 36 ≠ 38 by decide), sI_at, upd_ne _ _ (by decide), sI_ne _ _ _ (by decide)]
                    exact c11
                  have hgf : GFr g (sI (sI g11 35 0 (g11.1 35 0 + 1)) 38 (l.length + 1) (nI A2.length)) := by
                    refine ⟨fun c y1 y2 => hc c y1 (by omega) (by omega) (by omega) (by omega) (by omega) (by omega), fun j y1 y2 y3 => ?_, ?_, ?_⟩
                    · rw [h1]; exact (gf9.tr f11.l.g).2.1 j y1 y2 y3
                    · exact (gf9.tr f11.l.g).2.2.1
                    · rw [h38, upd_ne _ _ (by omega)]
                  generalize sI (sI g11 35 0 (g11.1 35 0 + 1)) 38 (l.length + 1) (nI A2.length) = g20 at h38 hc h37 h39 h350 h351 h1 h2' hcod hgf
                  have s20 : Sd B n (r + 1) g20 := s11.add h1
                  have x20 : Tx B n g20 := by unfold Tx; rw [h1, h2']; exact x9.fr f11
                  -- the clauses so far
                  have lenc : (l ++ [(B p, A.length, A1.length, A2.length)]).length = l.length + 1 := by rw [List.length_append]; rfl
                  have hX2 : LawX g20 (l ++ [(B p, A.length, A1.length, A2.length)]) A2 := by
                    have a49 : AskX g4 g9 A A2 := by
                      have y1 : AskX g5 g7 A1 A1 := AskX.eq a5.1 (by rw [q2 35 (by decide)])
                      have y2 : AskX g7 (fX10_expect 40 g7) A1 A1 := AskX.eq k7 (by rw [f8.1 35 (by decide)])
                      have L57 : ∀ c, c = 34 → g7.1 c = g5.1 c := fun c hc => q2 c (by omega)
                      refine ⟨a9.1, fun z => ?_⟩
                      obtain ⟨z1, z2⟩ := a9.2 z
                      rw [f8.1 35 (by decide), q2 35 (by decide)] at z1
                      rw [f8.1 34 (by decide), q2 34 (by decide), l5.1 34 (by decide) (by decide) (by decide)] at z2
                      obtain ⟨z3, z4⟩ := a5.2 z1
                      refine ⟨z3, fun z5 i hi qq => ?_⟩
                      by_cases lt : i < A1.length
                      · rw [w5 i lt] at qq
                        exact z4 z5 i hi qq
                      · exact z2 z5 i (by omega) qq
                    refine ⟨by rw [lenc]; exact h350, by unfold Ask01; rw [h351]; exact a9.1, fun i cc hcc => ?_, by rw [lenc, h38, upd_at], fun z i cc hcc hr xx y1 y2 => ?_⟩
                    · by_cases lt : i < l.length
                      · rw [List.getElem?_append_left lt] at hcc
                        obtain ⟨u1, u2, u3, u4, u5⟩ := X3 i cc hcc
                        rw [h37, h38, h39, upd_ne _ _ (by omega), upd_ne _ _ (by omega), upd_ne _ _ (by omega), upd_ne _ _ (by omega)]
                        exact ⟨u1, u2, u3, u4, by omega⟩
                      · have li := (List.getElem?_eq_some_iff.mp hcc).1
                        rw [lenc] at li
                        have : i = l.length := by omega
                        subst this
                        rw [List.getElem?_append_right (Nat.le_refl _), Nat.sub_self] at hcc
                        have := Option.some.inj hcc
                        rw [← this, h37, h38, h39, upd_at, upd_at, upd_at, upd_ne _ _ (by omega)]
                        exact ⟨rfl, X4, rfl, rfl, Nat.le_refl _⟩
                    · rw [h351] at z
                      obtain ⟨z1, z2⟩ := a49.2 z
                      rw [gc 35 (by decide) (by decide) (by decide)] at z1
                      by_cases lt : i < l.length
                      · rw [List.getElem?_append_left lt] at hcc
                        have u := X5 z1 i cc hcc hr xx y1 y2
                        intro qq
                        have la : xx < A.length := by have := (X3 i cc hcc).2.2.2.2; omega
                        rw [w5 xx (by omega), v5 xx la] at qq
                        exact u qq
                      · have li := (List.getElem?_eq_some_iff.mp hcc).1
                        rw [lenc] at li
                        have : i = l.length := by omega
                        subst this
                        rw [List.getElem?_append_right (Nat.le_refl _), Nat.sub_self] at hcc
                        have := Option.some.inj hcc
                        rw [← this] at hr y1
                        exact z2 (by rw [e34]; exact hr) xx y1
                  dsimp only
                  rw [letT_eq, s20.sound, if_neg d10', s20.atEnd t x20]
                  by_cases qe : r + 1 = n
                  · rw [if_pos qe, if_pos qe, if_neg d10']
                    refine ⟨fun f z => (by cases z), fun l' A' z => ?_⟩
                    injection Sum.inr.inj z with z1 z2
                    subst z1 z2
                    exact ⟨g20, by rw [h350, lenc], hgf, hcod, hX2⟩
                  · rw [if_neg qe, if_neg qe, if_pos rfl, letT_eq]
                    obtain ⟨ez1, ez2⟩ := s20.expect (k := 59) t x20 (by decide)
                    rw [show nI 59 = 59 from rfl] at ez1 ez2
                    have f15 := expect_fr 59 g20
                    by_cases c59 : B (r + 1) = nI 59
                    · rw [if_pos c59]
                      have s15 := ez1 c59
                      rw [s15.sound, if_neg d10', nI_1]
                      have := ih (r + 1 + 1) m (l ++ [(B p, A.length, A1.length, A2.length)]) A2 (fX10_expect 59 g20) (by rw [lenc]; omega) (by rw [lenc]; omega) (by omega) (x20.fr f15) s15 (hcod.fr f15) (by omega) (by
                        unfold LawX Ask01
                        rw [f15.1 35 (by decide), f15.1 37 (by decide), f15.1 38 (by decide), f15.1 39 (by decide)]
                        exact hX2)
                      rw [lenc] at this
                      obtain ⟨j1, j2⟩ := this
                      refine ⟨fun f z => ?_, fun l' A' z => ?_⟩
                      · obtain ⟨g', y1, y2, y3⟩ := j1 f z
                        exact ⟨g', y1, (hgf.tr f15.l.g).tr y2, y3⟩
                      · obtain ⟨g', y1, y2, y3⟩ := j2 l' A' z
                        exact ⟨g', y1, (hgf.tr f15.l.g).tr y2, y3⟩
                    · rw [if_neg c59]
                      have y := ez2 c59
                      rw [y.sound, if_pos rfl]
                      refine ⟨fun f z => ?_, fun l' A' z => (by cases z)⟩
                      rw [← Sum.inl.inj z]
                      exact ⟨_, kf _ _ y, hgf.tr f15.l.g, y.1, y.2.1⟩
                · rw [if_neg c41]
                  have y := ey2 c41
                  rw [letT_eq, letT_eq, y.sound, if_pos rfl]
                  dsimp only
                  have y2 := y.expect (w := 59)
                  rw [letT_eq, letT_eq, y.sound, if_pos rfl, y2.sound, if_pos rfl]
                  refine ⟨fun f z => ?_, fun l' A' z => (by cases z)⟩
                  rw [← Sum.inl.inj z]
                  exact ⟨_, kf _ _ y2, gf9.tr ((expect_fr 41 g9).tr (expect_fr 59 _)).l.g, y.1, y.2.1⟩
            · rw [if_neg c40]
              have y := ex2 c40
              rw [readChoiceD_fl y, ob]
              obtain ⟨g', e', fr, y'⟩ := lJ_end (rec := fX5_readLaw_l17 K K m) (K := K) (x2 := nI l.length) y
              refine ⟨fun f z => ?_, fun l' A' z => (by cases z)⟩
              rw [← Sum.inl.inj z]
              exact ⟨g', e'.trans (kf _ _ y'), (gf7.tr f8.l.g).tr fr.l.g, y.1, y.2.1⟩
        · omega
    · rw [if_pos (ltr_amg.2 hl)] at rl
      rw [pb_f hl, if_neg (by decide)]
      have y := s.failHere t
      obtain ⟨g4, e4, gf, y4⟩ := lett1 _ (failHere_fr g) _ y
      rw [rl.trans e4]
      obtain ⟨g', e', gf'⟩ := fault _ g4 y4
      refine ⟨fun f z => ?_, fun l' A' z => (by cases z)⟩
      rw [← Sum.inl.inj z]
      exact ⟨g', e', gf.tr gf', by omega, by omega⟩
end Clauses
