/-! ===== the model reads the clauses ===== -/
section ModelClauses
variable {B : Nat → Int32} {n : Nat}
theorem St5.clr {p o : Nat} {A : Cd} {W : Wt} {h : AH} (s : St5 B n p A W o h) : St5 B n p A [] o (sI h 75 26 0) := by
  obtain ⟨s1, s2, s3, s4, s5, s6⟩ := s
  have f : LMf h (sI h 75 26 0) := LMf.at (by decide)
  refine ⟨s1.frL f, by rw [sI_at, upd_ne _ _ (by decide)]; exact s2, s3, ?_, ⟨by rw [sI_at, upd_at]; rfl, fun i a b hi => (by cases hi)⟩, by rw [sI_at, upd_ne _ _ (by decide)]; exact s6⟩
  unfold CodM; rw [sI_at, upd_ne _ _ (by decide), sI_ne _ _ _ (by decide)]; exact s4
noncomputable def pCond (B : Nat → Int32) (q : Nat) (A : Cd) : Rs (Cd × Nat) := if B q = nI 40 then (match pChoice B (pPieceD B 8) 1 (q + 1) A with
      | .inl f => .inl f
      | .inr (A2, r) => if B r = nI 41 then .inr (A2, r + 1) else .inl (1000 + r)) else .inl (1000 + q)
theorem cond_eq {p : Nat} {A : Cd} {h : AH} (t : Txt B n) (s : St5 B n p A [] 0 h) (hA : A.length ≤ p) : (∀ f, pCond B p A = .inl f → FtM h f (fX12_readsCondition h)) ∧ ∀ A' q, pCond B p A = .inr (A', q) → ∃ g, fX12_readsCondition h = some (1, g) ∧ LMf h g ∧ St5 B n q A' [] 0 g := by
  have n200 := t.1
  have pn := s.2.2.1
  have here := here_eq t s.1 s.2.1 pn
  have fb := fuel_big
  unfold fX12_readsCondition pCond
  rw [here, ob]
  by_cases c : B p = nI 40
  · rw [if_pos (show B p = 40 from c), if_pos c, letT_eq, letT_eq]
    have hp := t.lit (by decide) c
    have s1 := (s.opn (o' := 0)).clr
    have f1 : LMf h (sI (sI h 75 24 (nI 0)) 75 26 0) := (LMf.at (by decide)).tr (LMf.at (by decide))
    rw [show nI 0 = 0 from rfl] at s1 f1
    generalize sI (sI h 75 24 0) 75 26 0 = h1 at s1 f1
    obtain ⟨g, e, l, s2⟩ := (opens_eq (a := 13) s1 hp n200 (Nat.zero_le _) (by decide) (by decide)).1 (by decide)
    have e' : fX12_opens (13 : Int32) h1 = some (1, g) := e
    rw [e', ob, if_neg d10']
    have ek : (fun (g61 : AH) => letT (fX12_wrongAt (1 : Int32) (g61.1 75 11) g61) (fun b62 => if b62.1 = 0 ∨ b62.1 = 1 then some (b62.1, b62.2) else none)) = kW := rfl
    rw [ek]
    have gp := pPieceD_gd t 8
    have ih := pieceM t 8
    obtain ⟨i1, i2⟩ := ih 1 (p + 1) A [(13, 0)] g fuel0 (by decide) (by decide) s2 ⟨[], 13, 0, rfl, by decide⟩ (by show 1 ≤ p + 1; omega) (by omega) (by omega)
    have ec : pChoice B (pPieceD B 8) 1 (p + 1) A = (match pPieceD B 8 1 (p + 1) A with | Sum.inl f => (Sum.inl f : Rs (Cd × Nat)) | Sum.inr (A', q) => pCLp B (pPieceD B 8) 1 201 q A' none none) := rfl
    rw [ec]
    cases er : pPieceD B 8 1 (p + 1) A with
    | inl f0 =>
      refine ⟨fun f z => ?_, fun A' q z => (by cases z)⟩
      rw [← Sum.inl.inj z]
      exact (i1 f0 er).tr (f1.tr l)
    | inr Aq =>
      obtain ⟨A1, q1⟩ := Aq
      obtain ⟨g1, g2', g3, g4, g5⟩ := gp _ _ _ _ _ er
      obtain ⟨h2, e2, k2, m2, x1, x2, x3, x4, x5, x6⟩ := i2 A1 q1 er
      rw [x1]
      have s2' : St5 B n q1 A1 ([] ++ [(13, 0)] ++ rW none ++ aW none) (0 + 1) h2 := x3
      have l0 : (rW none).length = 0 := rfl
      have l0' : (aW none).length = 0 := rfl
      have l0'' : ([] : Wt).length = 0 := rfl
      obtain ⟨z1, z2⟩ := cllM (o := 1) (V := []) t gp ih (by decide) (by decide) 201 q1 A1 none none e2 k2 m2 h2 (by omega) s2' (fun i q => by cases q) (fun i q => by cases q) (by omega) (by omega) x4 x5 x6
      dsimp only
      cases er2 : pCLp B (pPieceD B 8) 1 201 q1 A1 none none with
      | inl f0 =>
        refine ⟨fun f z => ?_, fun A' q z => (by cases z)⟩
        rw [← Sum.inl.inj z]
        exact ((z1 f0 er2).tr x2).tr (f1.tr l)
      | inr Aq =>
        obtain ⟨A2, q2⟩ := Aq
        obtain ⟨h3, k3, m3, A3, r', a', w1, w2, w3, w4, w5, w6, w7, w8, w9, w10, w11, w12⟩ := z2 A2 q2 er2
        rw [w1]
        obtain ⟨v1, v2⟩ := closeM (o := 0) (k := k3) t w3 (by decide) w5 w6 w7 w8 w9 w11 w12
        by_cases c3 : B q2 = nI 41
        · obtain ⟨h4, m4, u1, u2, u3, u4⟩ := v1 c3
          rw [if_pos l0''] at u1
          dsimp only
          rw [if_pos c3]
          refine ⟨fun f z => (by cases z), fun A' q z => ?_⟩
          injection Sum.inr.inj z with z1 z2
          subst z1 z2
          rw [w4] at u4
          exact ⟨h4, u1, (((f1.tr l).tr x2).tr w2).tr u3, u4⟩
        · dsimp only
          rw [if_neg c3]
          refine ⟨fun f z => ?_, fun A' q z => (by cases z)⟩
          rw [← Sum.inl.inj z]
          exact (v2 c3).tr (((f1.tr l).tr x2).tr w2)
  · rw [if_neg (show ¬ B p = 40 from c), if_neg c]
    refine ⟨fun f z => ?_, fun A' q z => (by cases z)⟩
    rw [← Sum.inl.inj z]
    exact ft_at (a := 1) s.2.1
/-- what the reading of clauses leaves -/
def LCf (h g : AH) : Prop := (∀ c, c ≠ 75 → c < 91 ∨ 96 < c → g.1 c = h.1 c) ∧ (∀ j, j ≠ 11 → j ≠ 13 → j ≠ 14 → j ≠ 24 → j ≠ 25 → j ≠ 26 → j ≠ 27 → g.1 75 j = h.1 75 j) ∧ g.2 = h.2
theorem LCf.rf {h : AH} : LCf h h := ⟨fun _ _ _ => rfl, fun _ _ _ _ _ _ _ _ => rfl, rfl⟩
theorem LCf.tr {h g k : AH} (a : LCf h g) (b : LCf g k) : LCf h k := ⟨fun c h1 h2 => (b.1 c h1 h2).trans (a.1 c h1 h2), fun j h1 h2 h3 h4 h5 h6 h7 => (b.2.1 j h1 h2 h3 h4 h5 h6 h7).trans (a.2.1 j h1 h2 h3 h4 h5 h6 h7), b.2.2.trans a.2.2⟩
theorem LMf.c {h g : AH} (a : LMf h g) : LCf h g := ⟨fun c h1 h2 => a.1 c h1 (by omega) (by omega), fun j h1 h2 h3 h4 h5 h6 _ => a.2.1 j h1 h2 h3 h4 h5 h6, a.2.2⟩
theorem LCf.at {h : AH} {j : Nat} {v : Int32} (hj : j = 11 ∨ j = 13 ∨ j = 14 ∨ j = 24 ∨ j = 25 ∨ j = 26 ∨ j = 27) : LCf h (sI h 75 j v) := ⟨fun c h1 _ => sI_ne _ _ _ h1, fun i _ _ _ _ _ _ _ => by rw [sI_at, upd_ne _ _ (by omega)], rfl⟩
theorem LCf.cell {h : AH} {c j : Nat} {v : Int32} (hc : 91 ≤ c ∧ c ≤ 96) : LCf h (sI h c j v) := ⟨fun d _ h2 => sI_ne _ _ _ (by omega), fun i _ _ _ _ _ _ _ => by rw [sI_ne _ _ _ (by omega)], rfl⟩
def FtC (h : AH) (f : Nat) (o : Option (Int32 × AH)) : Prop := ∃ g, o = some (0, g) ∧ LCf h g ∧ g.1 75 13 = -(nI f)
theorem FtM.c {h g : AH} {f : Nat} {o : Option (Int32 × AH)} (x : FtM g f o) (l : LCf h g) : FtC h f o := by
  obtain ⟨k, a, b, c⟩ := x
  exact ⟨k, a, l.tr b.c, c⟩
def LawMc (h : AH) (l : List Cla) : Prop := h.1 75 27 = nI l.length ∧ ∀ (i : Nat) (c : Cla), l[i]? = some c → h.1 93 i = c.1 ∧ h.1 94 i = nI c.2.1 ∧ h.1 95 i = nI c.2.2.1 ∧ h.1 96 i = nI c.2.2.2
def St4 (B : Nat → Int32) (n p : Nat) (A : Cd) (h : AH) : Prop := Tm B n h ∧ h.1 75 11 = nI p ∧ p ≤ n ∧ CodM h A
theorem Tm.frC {h g : AH} (f : LCf h g) (t : Tm B n h) : Tm B n g := by
  unfold Tm
  rw [f.2.1 12 (by decide) (by decide) (by decide) (by decide) (by decide) (by decide) (by decide), f.1 82 (by decide) (by decide)]
  exact t
/-- the whole of a clause's place, kept by what reads sums and conditions -/
def Row (h : AH) (l : List Cla) (j : Nat) (x y z : Int32) : Prop := h.1 75 27 = nI l.length ∧ (∀ (i : Nat) (c : Cla), l[i]? = some c → h.1 93 i = c.1 ∧ h.1 94 i = nI c.2.1 ∧ h.1 95 i = nI c.2.2.1 ∧ h.1 96 i = nI c.2.2.2) ∧ h.1 93 j = x ∧ h.1 94 j = y ∧ h.1 95 j = z
theorem pCla_eq {j p : Nat} {A : Cd} (lt : ltr (B p)) (l14 : ¬ j = 14) : pCla B j p A = (match pVal B p A with | Sum.inl f => Sum.inl f | Sum.inr (A1, q1) => (match pCond B q1 A1 with | Sum.inl f => Sum.inl f | Sum.inr (A2, q2) => Sum.inr ((B p, A.length, A1.length, A2.length), A2, q2))) := by
  unfold pCla
  rw [pb_t lt, if_pos rfl, if_neg l14]
  cases pVal B p A with
  | inl f => rfl
  | inr x =>
    dsimp only
    unfold pCond
    by_cases c40 : B x.2 = nI 40
    · rw [if_pos c40, if_pos c40]
      cases pChoice B (pPieceD B 8) 1 (x.2 + 1) x.1 with
      | inl f => rfl
      | inr y =>
        dsimp only
        by_cases c41 : B y.2 = nI 41
        · rw [if_pos c41, if_pos c41]
        · rw [if_neg c41, if_neg c41]
    · rw [if_neg c40, if_neg c40]
theorem clauseM {p : Nat} {A : Cd} {l : List Cla} {h : AH} (t : Txt B n) (s : St4 B n p A h) (hA : A.length ≤ p) (hl : l.length ≤ 14) (M : LawMc h l) : (∀ f, pCla B l.length p A = .inl f → FtC h f (fX12_readsClause h)) ∧ ∀ c A' q, pCla B l.length p A = .inr (c, A', q) → ∃ g, fX12_readsClause h = some (1, g) ∧ LCf h g ∧ St4 B n q A' g ∧ LawMc g (l ++ [c]) := by
  have n200 := t.1
  obtain ⟨s1, s2, s3, s4⟩ := s
  obtain ⟨M1, M2⟩ := M
  have here := here_eq t s1 s2 s3
  unfold fX12_readsClause
  rw [here, ob, letT_eq]
  have jj : ∀ (X Y : Option (Int32 × AH)), (if B p = (114 : Int32) then X else if B p = (116 : Int32) then X else if B p = (119 : Int32) then X else if B p = (99 : Int32) then X else Y) = if pb (ltr (B p)) then X else Y := fun X Y => by
    by_cases hl : ltr (B p)
    · rw [pb_t hl, if_pos rfl]
      rcases hl with e | e | e | e
      all_goals rw [e]
      · rw [if_pos rfl]
      · rw [if_neg (by decide), if_pos rfl]
      · rw [if_neg (by decide), if_neg (by decide), if_pos rfl]
      · rw [if_neg (by decide), if_neg (by decide), if_neg (by decide), if_pos rfl]
    · rw [pb_f hl, if_neg (show ¬ false = true by decide), if_neg (fun q => hl (Or.inl q)), if_neg (fun q => hl (Or.inr (Or.inl q))), if_neg (fun q => hl (Or.inr (Or.inr (Or.inl q)))), if_neg (fun q => hl (Or.inr (Or.inr (Or.inr q))))]
  rw [jj, M1]
  by_cases lt : ltr (B p)
  · rw [pb_t lt, if_pos rfl]
    have pn : p < n := t.inn (fun q => by rw [q] at lt; exact absurd lt (by unfold ltr; decide))
    by_cases l14 : l.length = 14
    · have ep : pCla B l.length p A = .inl (4000 + p) := by unfold pCla; rw [pb_t lt, if_pos rfl, if_pos l14]
      rw [ep, if_pos (show nI l.length = 14 by rw [l14]; rfl)]
      refine ⟨fun f z => ?_, fun c A' q z => (by cases z)⟩
      rw [← Sum.inl.inj z]
      exact (ft_at (a := 4) s2).c .rf
    · rw [pCla_eq lt l14, if_neg (show ¬ nI l.length = 14 from ne_lit (j := 14) (by omega) (by decide) l14), if_neg (gd (show l.length < 14 by omega) (by decide)), nI_clamp (by omega), letT_eq, letT_eq]
      generalize hg7 : sI (sI h 93 l.length (B p)) 75 11 ((sI h 93 l.length (B p)).1 75 11 + 1) = g7
      have f7 : LCf h g7 := by rw [← hg7]; exact (LCf.cell (by decide)).tr (LCf.at (by decide))
      have c7 : ∀ c, c ≠ 75 → c ≠ 93 → g7.1 c = h.1 c := fun c y1 y2 => by rw [← hg7, sI_ne _ _ _ y1, sI_ne _ _ _ y2]
      have e7 : ∀ j, j ≠ 11 → g7.1 75 j = h.1 75 j := fun j y => by rw [← hg7, sI_at, upd_ne _ _ y, sI_ne _ _ _ (by decide)]
      have p7 : g7.1 75 11 = nI (p + 1) := by rw [← hg7, sI_at, upd_at, sI_ne _ _ _ (by decide), s2, nI_1]
      have r7 : g7.1 93 = upd (h.1 93) l.length (B p) := by rw [← hg7, sI_ne _ _ _ (by decide), sI_at]
      rw [e7 27 (by decide), M1, if_neg (gd (show l.length < 14 by omega) (by decide)), nI_clamp (by omega), e7 25 (by decide), s4.1, letT_eq, letT_eq, letT_eq]
      generalize hg11 : sI (sI (sI g7 94 l.length (nI A.length)) 75 24 0) 75 26 0 = g11
      have f11 : LCf h g11 := by rw [← hg11]; exact ((f7.tr (LCf.cell (by decide))).tr (LCf.at (by decide))).tr (LCf.at (by decide))
      have c11 : ∀ c, c ≠ 75 → c ≠ 93 → c ≠ 94 → g11.1 c = h.1 c := fun c y1 y2 y3 => by rw [← hg11, sI_ne _ _ _ y1, sI_ne _ _ _ y1, sI_ne _ _ _ y3]; exact c7 c y1 y2
      have e11 : ∀ j, j ≠ 24 → j ≠ 26 → g11.1 75 j = g7.1 75 j := fun j y1 y2 => by rw [← hg11, sI_at, upd_ne _ _ y2, sI_at, upd_ne _ _ y1, sI_ne _ _ _ (by decide)]
      have st11 : St5 B n (p + 1) A [] 0 g11 := by
        refine ⟨s1.frC f11, by rw [e11 11 (by decide) (by decide)]; exact p7, by omega, ?_, ⟨by rw [← hg11, sI_at, upd_at]; rfl, fun i a b hi => (by cases hi)⟩, by rw [← hg11, sI_at, upd_ne _ _ (by decide), sI_at, upd_at]; rfl⟩
        unfold CodM
        rw [e11 25 (by decide) (by decide), e7 25 (by decide), c11 91 (by decide) (by decide) (by decide)]
        exact s4
      have m11 : g11.1 75 27 = nI l.length := by rw [e11 27 (by decide) (by decide), e7 27 (by decide)]; exact M1
      have r93 : g11.1 93 = upd (h.1 93) l.length (B p) := by rw [← hg11, sI_ne _ _ _ (by decide), sI_ne _ _ _ (by decide), sI_ne _ _ _ (by decide)]; exact r7
      have r94 : g11.1 94 = upd (h.1 94) l.length (nI A.length) := by rw [← hg11, sI_ne _ _ _ (by decide), sI_ne _ _ _ (by decide), sI_at, c7 94 (by decide) (by decide)]
      -- behind the E
      have behind : ∀ (A1 : Cd) (q1 : Nat) (g12 : AH), LMf g11 g12 → St5 B n q1 A1 [] 0 g12 → A1.length ≤ q1 → A.length ≤ A1.length →
          (∀ f, pCond B q1 A1 = .inl f → FtC h f (if (g12.1 75 27) < 0 ∨ 14 ≤ (g12.1 75 27).toNatClampNeg then none else letT (sI g12 95 (g12.1 75 27).toNatClampNeg (g12.1 75 25)) (fun g15 => (fX12_readsCondition g15).bind (fun b16 => if b16.1 = 0 then some ((0 : Int32), b16.2) else if (b16.2.1 75 27) < 0 ∨ 14 ≤ (b16.2.1 75 27).toNatClampNeg then none else letT (sI b16.2 96 (b16.2.1 75 27).toNatClampNeg (b16.2.1 75 25)) (fun g20 => letT (sI g20 75 27 ((g20.1 75 27) + (1 : Int32))) (fun g21 => some ((1 : Int32), g21))))))) ∧
          ∀ A2 q2, pCond B q1 A1 = .inr (A2, q2) → ∃ g, (if (g12.1 75 27) < 0 ∨ 14 ≤ (g12.1 75 27).toNatClampNeg then none else letT (sI g12 95 (g12.1 75 27).toNatClampNeg (g12.1 75 25)) (fun g15 => (fX12_readsCondition g15).bind (fun b16 => if b16.1 = 0 then some ((0 : Int32), b16.2) else if (b16.2.1 75 27) < 0 ∨ 14 ≤ (b16.2.1 75 27).toNatClampNeg then none else letT (sI b16.2 96 (b16.2.1 75 27).toNatClampNeg (b16.2.1 75 25)) (fun g20 => letT (sI g20 75 27 ((g20.1 75 27) + (1 : Int32))) (fun g21 => some ((1 : Int32), g21)))))) = some (1, g) ∧ LCf h g ∧ St4 B n q2 A2 g ∧ LawMc g (l ++ [(B p, A.length, A1.length, A2.length)]) := fun A1 q1 g12 l12 st12 hq1 hA1 => by
        have m12 : g12.1 75 27 = nI l.length := by rw [l12.2.1 27 (by decide) (by decide) (by decide) (by decide) (by decide) (by decide)]; exact m11
        rw [m12, if_neg (gd (show l.length < 14 by omega) (by decide)), nI_clamp (by omega), st12.2.2.2.1.1, letT_eq]
        have st15 : St5 B n q1 A1 [] 0 (sI g12 95 l.length (nI A1.length)) := by
          obtain ⟨u1, u2, u3, u4, u5, u6⟩ := st12
          refine ⟨u1.frC (LCf.cell (by decide)), by rw [sI_ne _ _ _ (by decide)]; exact u2, u3, ?_, ?_, by rw [sI_ne _ _ _ (by decide)]; exact u6⟩
          · unfold CodM; rw [sI_ne _ _ _ (by decide), sI_ne _ _ _ (by decide)]; exact u4
          · unfold WtM; rw [sI_ne _ _ _ (by decide), sI_ne _ _ _ (by decide)]; exact u5
        have f15 : LCf h (sI g12 95 l.length (nI A1.length)) := (f11.tr l12.c).tr (LCf.cell (by decide))
        obtain ⟨j1, j2⟩ := cond_eq t st15 hq1
        refine ⟨fun f z => ?_, fun A2 q2 z => ?_⟩
        · obtain ⟨g, a1, a2, a3⟩ := j1 f z
          rw [a1, ob, if_pos rfl]
          exact ⟨g, rfl, f15.tr a2.c, a3⟩
        · obtain ⟨g, a1, a2, a3⟩ := j2 A2 q2 z
          have m16 : g.1 75 27 = nI l.length := by rw [a2.2.1 27 (by decide) (by decide) (by decide) (by decide) (by decide) (by decide), sI_ne _ _ _ (by decide)]; exact m12
          rw [a1, ob, if_neg d10']
          dsimp only
          rw [m16, if_neg (gd (show l.length < 14 by omega) (by decide)), nI_clamp (by omega), a3.2.2.2.1.1, letT_eq, letT_eq]
          have m20 : (sI g 96 l.length (nI A2.length)).1 75 27 = nI l.length := by rw [sI_ne _ _ _ (by decide)]; exact m16
          rw [m20, nI_1]
          have fe : LCf h (sI (sI g 96 l.length (nI A2.length)) 75 27 (nI (l.length + 1))) := ((f15.tr a2.c).tr (LCf.cell (by decide))).tr (LCf.at (by decide))
          refine ⟨_, rfl, fe, ⟨s1.frC fe, ?_, a3.2.2.1, ?_⟩, ⟨?_, fun i c hi => ?_⟩⟩
          · rw [sI_at, upd_ne _ _ (by decide), sI_ne _ _ _ (by decide)]; exact a3.2.1
          · unfold CodM; rw [sI_at, upd_ne _ _ (by decide), sI_ne _ _ _ (by decide), sI_ne _ _ _ (by decide), sI_ne _ _ _ (by decide)]; exact a3.2.2.2.1
          · rw [sI_at, upd_at, List.length_append]; rfl
          · have k93 : (sI (sI g 96 l.length (nI A2.length)) 75 27 (nI (l.length + 1))).1 93 = upd (h.1 93) l.length (B p) := by rw [sI_ne _ _ _ (by decide), sI_ne _ _ _ (by decide), a2.1 93 (by decide) (by decide) (by decide), sI_ne _ _ _ (by decide), l12.1 93 (by decide) (by decide) (by decide)]; exact r93
            have k94 : (sI (sI g 96 l.length (nI A2.length)) 75 27 (nI (l.length + 1))).1 94 = upd (h.1 94) l.length (nI A.length) := by rw [sI_ne _ _ _ (by decide), sI_ne _ _ _ (by decide), a2.1 94 (by decide) (by decide) (by decide), sI_ne _ _ _ (by decide), l12.1 94 (by decide) (by decide) (by decide)]; exact r94
            have k95 : (sI (sI g 96 l.length (nI A2.length)) 75 27 (nI (l.length + 1))).1 95 = upd (h.1 95) l.length (nI A1.length) := by rw [sI_ne _ _ _ (by decide), sI_ne _ _ _ (by decide), a2.1 95 (by decide) (by decide) (by decide), sI_at, l12.1 95 (by decide) (by decide) (by decide), c11 95 (by decide) (by decide) (by decide)]
            have k96 : (sI (sI g 96 l.length (nI A2.length)) 75 27 (nI (l.length + 1))).1 96 = upd (h.1 96) l.length (nI A2.length) := by rw [sI_ne _ _ _ (by decide), sI_at, a2.1 96 (by decide) (by decide) (by decide), sI_ne _ _ _ (by decide), l12.1 96 (by decide) (by decide) (by decide), c11 96 (by decide) (by decide) (by decide)]
            rw [k93, k94, k95, k96]
            by_cases il : i < l.length
            · rw [List.getElem?_append_left il] at hi
              rw [upd_ne _ _ (by omega), upd_ne _ _ (by omega), upd_ne _ _ (by omega), upd_ne _ _ (by omega)]
              exact M2 i c hi
            · have li := (List.getElem?_eq_some_iff.mp hi).1
              rw [List.length_append] at li
              have : i = l.length := by have : [(B p, A.length, A1.length, A2.length)].length = 1 := rfl; omega
              subst this
              rw [List.getElem?_append_right (Nat.le_refl _), Nat.sub_self] at hi
              rw [← Option.some.inj hi, upd_at, upd_at, upd_at, upd_at]
              exact ⟨rfl, rfl, rfl, rfl⟩
      rw [letT_eq]
      unfold pVal
      by_cases e114 : B p = nI 114
      · rw [if_pos (show B p = 114 from e114), if_pos e114]
        obtain ⟨b1, b2⟩ := behind A (p + 1) g11 .rf st11 (by omega) (Nat.le_refl _)
        dsimp only
        cases ec : pCond B (p + 1) A with
        | inl f0 =>
          refine ⟨fun f z => ?_, fun c A' q z => (by cases z)⟩
          rw [← Sum.inl.inj z]
          exact b1 f0 ec
        | inr x =>
          refine ⟨fun f z => (by cases z), fun c A' q z => ?_⟩
          injection Sum.inr.inj z with z1 z2
          injection z2 with z2 z3
          subst z1 z2 z3
          exact b2 _ _ ec
      · rw [if_neg (show ¬ B p = 114 from e114), if_neg e114]
        obtain ⟨i1, i2⟩ := readsSum_eq t st11 (by decide) (Or.inl rfl) (Nat.zero_le _) (by omega)
        cases er : pSumD B 8 0 (p + 1) A with
        | inl f0 =>
          obtain ⟨g, a1, a2, a3⟩ := i1 f0 er
          rw [a1, ob, if_pos rfl]
          refine ⟨fun f z => ?_, fun c A' q z => (by cases z)⟩
          rw [← Sum.inl.inj z]
          exact ⟨g, rfl, f11.tr a2.c, a3⟩
        | inr Aq =>
          obtain ⟨A1, q1⟩ := Aq
          obtain ⟨y1, y2, y3, y4, y5⟩ := pSumD_gd t 8 _ _ _ _ _ er
          obtain ⟨g, a1, a2, a3⟩ := i2 A1 q1 er
          rw [a1, ob, if_neg d10']
          obtain ⟨b1, b2⟩ := behind A1 q1 g a2 a3 (by omega) (by omega)
          dsimp only
          cases ec : pCond B q1 A1 with
          | inl f0 =>
            refine ⟨fun f z => ?_, fun c A' q z => (by cases z)⟩
            rw [← Sum.inl.inj z]
            exact b1 f0 ec
          | inr x =>
            refine ⟨fun f z => (by cases z), fun c A' q z => ?_⟩
            injection Sum.inr.inj z with z1 z2
            injection z2 with z2 z3
            subst z1 z2 z3
            exact b2 _ _ ec
  · have ep : pCla B l.length p A = .inl (1000 + p) := by unfold pCla; rw [pb_f lt, if_neg (by decide)]
    rw [ep, pb_f lt, if_neg (show ¬ false = true by decide)]
    refine ⟨fun f z => ?_, fun c A' q z => (by cases z)⟩
    rw [← Sum.inl.inj z]
    exact (ft_at (a := 1) s2).c .rf
end ModelClauses
