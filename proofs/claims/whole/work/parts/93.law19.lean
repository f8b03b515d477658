/-! ===== law ===== -/
theorem pLaw_ok {B : Nat → Int32} {n : Nat} (t : Txt B n) : ∀ (k p : Nat) (l : List Cla) (A : Cd) {l' : List Cla} {A' : Cd}, LawS l A → pLaw B n k p l A = .inr (l', A') → LawS l' A' := by
  intro k
  induction k with
  | zero => intro p l A l' A' _ h; cases h
  | succ k ih =>
    intro p l A l' A' hS h
    unfold pLaw at h
    cases e : pCla B l.length p A with
    | inl f => rw [e] at h; cases h
    | inr x =>
      obtain ⟨c, A1, q⟩ := x
      rw [e] at h
      obtain ⟨y1, y2, y3, y4, y5, y6, y7, y8, y9, y10, y11, y12, y13, y14⟩ := pCla_ok t e
      have S1 : LawS (l ++ [c]) A1 := fun i d hd => by
        by_cases il : i < l.length
        · rw [List.getElem?_append_left il] at hd
          exact hS.ext (by omega) y7 i d hd
        · have li := (List.getElem?_eq_some_iff.mp hd).1
          rw [List.length_append] at li
          have : i = l.length := by have : [c].length = 1 := rfl; omega
          subst this
          rw [List.getElem?_append_right (Nat.le_refl _), Nat.sub_self] at hd
          rw [← Option.some.inj hd]
          exact ⟨y11, by omega, y12, y13⟩
      dsimp only at h
      by_cases qn : q = n
      · rw [if_pos qn] at h
        injection Sum.inr.inj h with z1 z2
        subst z1 z2
        exact S1
      · rw [if_neg qn] at h
        by_cases c59 : B q = nI 59
        · rw [if_pos c59] at h
          exact ih _ _ _ S1 h
        · rw [if_neg c59] at h; cases h
theorem become4_eq {g : AH} (a : Ask01 g) : ∃ g', fX4_become g = some g' ∧ g'.1 42 0 = g.1 35 0 ∧ g'.1 42 1 = g.1 35 1 ∧ eqOn 200 (g'.1 43) (g.1 36) ∧ eqOn 14 (g'.1 44) (g.1 37) ∧ eqOn 15 (g'.1 45) (g.1 38) ∧ eqOn 14 (g'.1 46) (g.1 39) ∧ ∀ c, c < 42 ∨ 46 < c → g'.1 c = g.1 c := by
  unfold fX4_become
  rw [letT_eq]
  have e1 : (sI g 42 0 (g.1 35 0)).1 35 = g.1 35 := sI_ne _ _ _ (by decide)
  rw [e1, if_pos (show g.1 35 1 = 0 ∨ g.1 35 1 = 1 from a), letT_eq]
  have e2 : (sI (sI g 42 0 (g.1 35 0)) 42 1 (g.1 35 1)).1 35 = g.1 35 := by rw [sI_ne _ _ _ (by decide), e1]
  rw [e2, letT_eq]
  have k42 : ∀ c, c ≠ 42 → (sI (sI (sI g 42 0 (g.1 35 0)) 42 1 (g.1 35 1)) 42 2 (g.1 35 2)).1 c = g.1 c := fun c hc => by rw [sI_ne _ _ _ hc, sI_ne _ _ _ hc, sI_ne _ _ _ hc]
  have v0 : (sI (sI (sI g 42 0 (g.1 35 0)) 42 1 (g.1 35 1)) 42 2 (g.1 35 2)).1 42 0 = g.1 35 0 := by rw [sI_at, upd_ne _ _ (by decide), sI_at, upd_ne _ _ (by decide), sI_at, upd_at]
  have v1 : (sI (sI (sI g 42 0 (g.1 35 0)) 42 1 (g.1 35 1)) 42 2 (g.1 35 2)).1 42 1 = g.1 35 1 := by rw [sI_at, upd_ne _ _ (by decide), sI_at, upd_at]
  generalize sI (sI (sI g 42 0 (g.1 35 0)) 42 1 (g.1 35 1)) 42 2 (g.1 35 2) = g4 at k42 v0 v1
  obtain ⟨rC, e3, q3⟩ := copyRow_ex (a := 36) (b := 43) (n := 200) (h := g4) (by decide) rfl rfl
  obtain ⟨rK, e4, q4⟩ := copyRow_ex (a := 37) (b := 44) (n := 14) (h := sR g4 43 rC) (by decide) rfl rfl
  obtain ⟨rF, e5, q5⟩ := copyRow_ex (a := 38) (b := 45) (n := 15) (h := sR (sR g4 43 rC) 44 rK) (by decide) rfl rfl
  obtain ⟨rS, e6, q6⟩ := copyRow_ex (a := 39) (b := 46) (n := 14) (h := sR (sR (sR g4 43 rC) 44 rK) 45 rF) (by decide) rfl rfl
  rw [e3, ob, e4, ob, e5, ob, e6, ob]
  refine ⟨_, rfl, v0, v1, ?_, ?_, ?_, ?_, fun c hc => ?_⟩
  · rw [← k42 36 (by decide)]; exact q3
  · rw [← k42 37 (by decide)]; exact q4
  · rw [← k42 38 (by decide)]; exact q5
  · rw [← k42 39 (by decide)]; exact q6
  · rw [sR_ne _ _ (by omega), sR_ne _ _ (by omega), sR_ne _ _ (by omega), sR_ne _ _ (by omega)]
    exact k42 c (by omega)
theorem coreC_l : ∀ c ∈ coreC, c ≠ 1 ∧ c ≠ 75 ∧ (c < 34 ∨ 39 < c) ∧ (c < 91 ∨ 96 < c) := by decide
theorem coreS_l : ∀ q ∈ coreS, (q.1 = 1 → q = (1, 1)) ∧ (q ≠ (38, 0) → q.1 ≠ 1 → (q.1 < 34 ∨ 39 < q.1)) ∧ (q.1 < 91 ∨ 96 < q.1) ∧ (q.1 = 75 → q.2 ≠ 11 ∧ q.2 ≠ 12 ∧ q.2 ≠ 13 ∧ q.2 ≠ 14 ∧ q.2 ≠ 24 ∧ q.2 ≠ 25 ∧ q.2 ≠ 26 ∧ q.2 ≠ 27) := by decide
/-- the clauses on both sides -/
theorem clz_of {l : List Cla} {A : Cd} {cx lt vs cs cm cl fr hf tt : Rw} {asks : Int32} {q : Nat} {c : Cla} (hS : LawS l A) (hA : A.length ≤ 200) (hq : l[q]? = some c)
    (hx : ∀ p op num, A[p]? = some (op, num) → cx p = nI (16 * num + op) ∧ op < 16 ∧ num < 100000) (hm : ∀ p op num, A[p]? = some (op, num) → cm p = nI (1048576 * mop op + num) ∧ op < 13 ∧ num < 100000)
    (e1 : lt q = c.1) (e2 : vs q = nI c.2.1) (e3 : cs q = nI c.2.2.1) (e4 : vs (q + 1) = nI c.2.2.2) (f1 : cl q = c.1) (f2 : fr q = nI c.2.1) (f3 : hf q = nI c.2.2.1) (f4 : tt q = nI c.2.2.2)
    (ask : asks = 0 → c.1 = nI 114 → ∀ x, c.2.1 ≤ x → x < c.2.2.2 → A[x]? ≠ some (1, 2)) : Clz cx lt vs cs cm cl fr hf tt asks q := by
  obtain ⟨s0, s1, ⟨t1, t2, t3, v, t4, t5, t6, t7⟩, s3⟩ := hS q c hq
  have c01 : ∀ f, (v f).getD 0 = 0 ∨ (v f).getD 0 = 1 := fun f => by
    cases e : v f with
    | none => exact Or.inl rfl
    | some x => exact t7 rfl f x e
  have evx := Sgm.evX (code := cx) t4 (by decide) (by omega) (by omega) (fun p op num _ e => hx p op num e)
  have evm := Sgm.evM (code := cm) t4 (by decide) (by omega) (by omega) (fun p op num _ e => hm p op num e)
  have no2 : lt q = 114 → asks = 0 → ∀ f x, (fun f => (v f).getD 0) (upd f 2 x) = (fun f => (v f).getD 0) f := fun z1 z2 f x => by
    have := t6 (fun p p1 p2 => ask z2 (by rw [← e1]; exact z1) p (by omega) p2) f x
    dsimp only
    rw [this]
  unfold Clz
  rw [e2, e3, e4, f2, f3, f4]
  by_cases h114 : c.1 = nI 114
  · exact ⟨fun f => (v f).getD 0, fun _ => 0, by rw [e1, f1], c01, fun f g h => ⟨by dsimp only; rw [t5 f g h], rfl⟩, no2, evx, evm, fun z => absurd (show lt q = 114 by rw [e1]; exact h114) z⟩
  · obtain ⟨u1, u2, u3, w, u4, u5, u6, u7⟩ := s3 h114
    have evx2 := Sgm.evX (code := cx) u4 (by decide) (by omega) (by omega) (fun p op num _ e => hx p op num e)
    have evm2 := Sgm.evM (code := cm) u4 (by decide) (by omega) (by omega) (fun p op num _ e => hm p op num e)
    exact ⟨fun f => (v f).getD 0, fun f => (w f).getD 0, by rw [e1, f1], c01, fun f g h => ⟨by dsimp only; rw [t5 f g h], by dsimp only; rw [u5 f g h]⟩, no2, evx, evm, fun _ => ⟨evx2, evm2⟩⟩
theorem st_law (p : Int32) {h : AH} (I : Inv h) : St (xo_law p) (mo_law p) h := by
  obtain ⟨⟨N, M, x, H⟩, hkp, ⟨T, t1, t2, t3, t4⟩, nz, hL⟩ := id I
  by_cases c1 : p < 1
  · refine St.ro (r := -1) I ?_ .rf ?_ .rf
    · unfold xo_law fX11_law
      rw [if_pos c1]
    · unfold mo_law fX12_law
      rw [in_no (Or.inl c1), if_pos rfl]
  by_cases c2 : (200 : Int32) < p
  · refine St.ro (r := -1) I ?_ .rf ?_ .rf
    · unfold xo_law fX11_law
      rw [if_neg c1, if_pos c2]
    · unfold mo_law fX12_law
      rw [in_no (Or.inr c2), if_pos rfl]
  have c0 : ¬ p < 0 := fun q => c1 (fa_trans q (by decide))
  obtain ⟨n, hn0, rfl⟩ := nI_of c0
  have n1 : 1 ≤ n := by
    by_cases a : 1 ≤ n
    · exact a
    · have : n = 0 := by omega
      rw [this] at c1
      exact absurd (show nI 0 < 1 by decide) c1
  have n200 : n ≤ 200 := by
    by_cases a : n ≤ 200
    · exact a
    · exact absurd (nI_lt (a := 200) (b := n) (by omega) hn0) c2
  by_cases c3 : T < n
  · refine St.ro (r := -1) I ?_ .rf ?_ .rf
    · unfold xo_law fX11_law
      rw [if_neg c1, if_neg c2, t2, if_pos (nI_lt c3 (by omega))]
    · unfold mo_law fX12_law
      rw [in_yes c1 c2, if_neg (by decide), t3, if_pos (nI_lt c3 (by omega))]
  -- the text
  let B : Nat → Int32 := fun i => if i < n then h.1 2 i else -1
  have t : Txt B n := ⟨n200, fun i hi => by
    obtain ⟨b, hb, e, -⟩ := t4 i (by omega)
    exact ⟨b, hb, (if_pos hi).trans e⟩, fun i hi => if_neg (by omega)⟩
  have hB : ∀ i, i < n → h.1 2 i = B i := fun i hi => (if_pos hi).symm
  obtain ⟨x1, s1, fc, f11, f2⟩ := begin_sd (h := h) t hB
  have eb : fX5_readLaw (nI n) h = fX5_readLaw_l17 (fun (g24 : AH) => some (-(g24.1 1 4), g24)) (fun (g25 : AH) => some (-(g25.1 1 4), g25)) fuel0 0 (sI (sI (sI (fX10_beginText (nI n) h) 35 0 0) 35 1 0) 35 2 0) := by
    unfold fX5_readLaw fX4_clear
    rw [letT_eq, letT_eq, letT_eq, letT_eq, letT_eq]
  generalize fX10_beginText (nI n) h = gb at x1 s1 fc f11 f2 eb
  have fz : ∀ c, c ≠ 35 → (sI (sI (sI gb 35 0 0) 35 1 0) 35 2 0).1 c = gb.1 c := fun c hc => by rw [sI_ne _ _ _ hc, sI_ne _ _ _ hc, sI_ne _ _ _ hc]
  have z0 : (sI (sI (sI gb 35 0 0) 35 1 0) 35 2 0).1 35 0 = 0 := by rw [sI_at, upd_ne _ _ (by decide), sI_at, upd_ne _ _ (by decide), sI_at, upd_at]
  have z1 : (sI (sI (sI gb 35 0 0) 35 1 0) 35 2 0).1 35 1 = 0 := by rw [sI_at, upd_ne _ _ (by decide), sI_at, upd_at]
  have z2 : (sI (sI (sI gb 35 0 0) 35 1 0) 35 2 0).1 35 2 = 0 := by rw [sI_at, upd_at]
  generalize sI (sI (sI gb 35 0 0) 35 1 0) 35 2 0 = gz at fz z0 z1 z2 eb
  have h380 : h.1 38 0 = 0 := hL.2.2.2.2.2
  have z38 : gz.1 38 0 = 0 := by rw [fz 38 (by decide), fc 38 (by decide)]; exact h380
  have x2 : Tx B n gz := by unfold Tx; rw [fz 1 (by decide), fz 2 (by decide)]; exact x1
  have s2 : Sd B n 0 gz := s1.add (fz 1 (by decide))
  have cx0 : CodX gz [] := ⟨z2, fun p op num e => (by cases e)⟩
  have lx0 : LawX gz [] [] := ⟨z0, Or.inl z1, fun i c e => (by cases e), z38, fun _ i c e => (by cases e)⟩
  obtain ⟨r1, r2⟩ := readLaw17 t 15 0 fuel0 [] [] gz rfl (by decide) (by have := fuel_big; omega) x2 s2 cx0 (Nat.zero_le _) lx0
  have ez : nI ([] : List Cla).length = 0 := rfl
  rw [ez] at r1 r2
  -- what the class leaves
  have fX : ∀ g', GFr gz g' → (∀ c, c ≠ 1 → c < 34 ∨ 39 < c → g'.1 c = h.1 c) ∧ g'.1 38 0 = 0 := fun g' pf => ⟨fun c h1 h2 => by
    rw [pf.1 c h1 h2, fz c (by omega), fc c h1], pf.2.2.2.trans z38⟩
  have sX : ∀ {g' : AH} {a : Int32}, fX5_readLaw (nI n) h = some (a, g') → xo_law (nI n) h = if 0 < a then (fX4_become (sI g' 1 1 0)).bind (fun b8 => some (a, b8)) else some (a, sI g' 1 1 0) := fun {g' a} e => by
    unfold xo_law fX11_law
    rw [if_neg c1, if_neg c2, t2, if_neg (nI_nlt (by omega) (by omega)), e, ob]
    unfold fX10_clear
    rw [letT_eq, letT_eq]
  -- the model, from any heap that has what it needs
  have sM : ∀ g1 : AH, (∀ c, c = 75 ∨ c = 82 → g1.1 c = h.1 c) → ∃ g6 : AH, St4 B n 0 [] g6 ∧ LawMc g6 [] ∧ (∀ c, c ≠ 75 → g6.1 c = g1.1 c) ∧ (∀ j, j ≠ 11 → j ≠ 12 → j ≠ 25 → j ≠ 27 → g6.1 75 j = g1.1 75 j) ∧ mo_law (nI n) g1 = (fX12_readsClause g6).bind (fun b7 => fX12_law_l46 (fun (y17 : Int32) (g18 : AH) => letT (sI g18 75 10 (0 : Int32)) (fun g19 => if y17 = 0 then some (g19.1 75 13, g19) else letT (sI g19 75 28 (g19.1 75 27)) (fun g21 => fX12_law_l110 (fun (g26 : AH) => fX12_law_l138 fuel0 (0 : Int32) g26) fuel0 (0 : Int32) g21))) fuel0 b7.1 b7.2) := fun g1 hg => by
    have e75 := hg 75 (Or.inl rfl)
    refine ⟨sI (sI (sI (sI g1 75 11 0) 75 12 (nI n)) 75 25 0) 75 27 0, ⟨⟨?_, fun i hi => ?_⟩, ?_, Nat.zero_le _, ?_, fun i op num e => (by cases e)⟩, ⟨?_, fun i c e => (by cases e)⟩, fun c hc => ?_, fun j h1 h2 h3 h4 => ?_, ?_⟩
    · rw [sI_at, upd_ne _ _ (by decide), sI_at, upd_ne _ _ (by decide), sI_at, upd_at]
    · rw [sI_ne _ _ _ (by decide), sI_ne _ _ _ (by decide), sI_ne _ _ _ (by decide), sI_ne _ _ _ (by decide), hg 82 (Or.inr rfl)]
      obtain ⟨b, hb, e1, e2⟩ := t4 i (by omega)
      rw [e2, ← e1]
      exact hB i hi
    · rw [sI_at, upd_ne _ _ (by decide), sI_at, upd_ne _ _ (by decide), sI_at, upd_ne _ _ (by decide), sI_at, upd_at]; rfl
    · rw [sI_at, upd_ne _ _ (by decide), sI_at, upd_at]; rfl
    · rw [sI_at, upd_at]; rfl
    · rw [sI_ne _ _ _ hc, sI_ne _ _ _ hc, sI_ne _ _ _ hc, sI_ne _ _ _ hc]
    · rw [sI_at, upd_ne _ _ h4, sI_at, upd_ne _ _ h3, sI_at, upd_ne _ _ h2, sI_at, upd_ne _ _ h1]
    · unfold mo_law fX12_law
      rw [in_yes c1 c2, if_neg (by decide), e75, t3, if_neg (nI_nlt (by omega) (by omega)), letT_eq, letT_eq, letT_eq, letT_eq]
  cases eL : pLaw B n 15 0 [] [] with
  | inl f =>
    obtain ⟨g', e1, pf, f0, f1⟩ := r1 f eL
    obtain ⟨fx, fx38⟩ := fX g' pf
    have eX := sX (eb.trans e1)
    rw [if_neg (neg_np f1)] at eX
    have h1c : ∀ c, c ≠ 1 → (sI g' 1 1 0).1 c = g'.1 c := fun c hc => sI_ne _ _ _ hc
    obtain ⟨g6, m1, m2, m5, m6, m7⟩ := sM (sI g' 1 1 0) (fun c hc => by
      have hc1 : c ≠ 1 := by omega
      rw [h1c c hc1]
      exact fx c hc1 (by omega))
    obtain ⟨k1, -⟩ := lawM (K := fun (y17 : Int32) (g18 : AH) => letT (sI g18 75 10 (0 : Int32)) (fun g19 => if y17 = 0 then some (g19.1 75 13, g19) else letT (sI g19 75 28 (g19.1 75 27)) (fun g21 => fX12_law_l110 (fun (g26 : AH) => fX12_law_l138 fuel0 (0 : Int32) g26) fuel0 (0 : Int32) g21))) t 15 0 fuel0 [] [] g6 rfl (by decide) (by have := fuel_big; omega) m1 (Nat.zero_le _) m2
    obtain ⟨g, a1, a2, a3⟩ := k1 f eL
    rw [letT_eq, if_pos rfl] at a1
    have e13 : (sI g 75 10 0).1 75 13 = -(nI f) := by rw [sI_at, upd_ne _ _ (by decide)]; exact a3
    rw [e13] at a1
    refine ⟨-(nI f), sI g' 1 1 0, sI g 75 10 0, eX, m7.trans a1, I.t0.core (core_t0 (fun c hc => ?_) (fun q hq q1 q2 => ?_) ?_ ?_)⟩
    · obtain ⟨z1, z2, z3, z4⟩ := coreC_l c hc
      rw [sI_ne _ _ _ z2, a2.1 c z2 z4, m5 c z2, h1c c z1]
      exact fx c z1 z3
    · obtain ⟨y1, y2, y4, y3⟩ := coreS_l q hq
      have z1 : q.1 ≠ 1 := fun e => q1 (y1 e)
      by_cases z2 : q.1 = 75
      · obtain ⟨w1, w2, w3, w4, w5, w6, w7, w8⟩ := y3 z2
        have w0 : q.2 ≠ 10 := fun e => q2 (Prod.ext z2 e)
        rw [z2, sI_at, upd_ne _ _ w0, a2.2.1 _ w1 w3 w4 w5 w6 w7 w8, m6 _ w1 w2 w6 w8, h1c 75 (by decide), fx 75 (by decide) (by decide)]
      · rw [sI_ne _ _ _ z2, a2.1 _ z2 y4, m5 _ z2, h1c _ z1]
        by_cases q38 : q = (38, 0)
        · rw [q38]
          exact fx38.trans h380.symm
        · rw [fx _ z1 (y2 q38 z1)]
    · rw [sI_ne _ _ _ (by decide), a2.1 1 (by decide) (by decide), m5 1 (by decide), sI_at, upd_at]
    · rw [sI_at, upd_at]
  | inr x' =>
    obtain ⟨l', A'⟩ := x'
    have hS := pLaw_ok t 15 0 [] [] (fun i c e => (by cases e)) eL
    obtain ⟨g', e1, pf, cX, X1, X2, X3, X4, X5⟩ := r2 l' A' eL
    obtain ⟨fx, fx38⟩ := fX g' pf
    have eX := sX (eb.trans e1)
    have h1c : ∀ c, c ≠ 1 → (sI g' 1 1 0).1 c = g'.1 c := fun c hc => sI_ne _ _ _ hc
    obtain ⟨gc, b0, b1, b2, b3, b4, b5, b6, bc⟩ := become4_eq (g := sI g' 1 1 0) (by unfold Ask01; rw [h1c 35 (by decide)]; exact X2)
    rw [h1c 35 (by decide)] at b1 b2
    rw [h1c 36 (by decide)] at b3
    rw [h1c 37 (by decide)] at b4
    rw [h1c 38 (by decide)] at b5
    rw [h1c 39 (by decide)] at b6
    have gcx : ∀ c, c ≠ 1 → c < 34 ∨ 39 < c → c < 42 ∨ 46 < c → gc.1 c = h.1 c := fun c y1 y2 y3 => by rw [bc c y3, h1c c y1]; exact fx c y1 y2
    obtain ⟨g6, m1, m2, m5, m6, m7⟩ := sM gc (fun c hc => gcx c (by omega) (by omega) (by omega))
    obtain ⟨-, k2⟩ := lawM (K := fun (y17 : Int32) (g18 : AH) => letT (sI g18 75 10 (0 : Int32)) (fun g19 => if y17 = 0 then some (g19.1 75 13, g19) else letT (sI g19 75 28 (g19.1 75 27)) (fun g21 => fX12_law_l110 (fun (g26 : AH) => fX12_law_l138 fuel0 (0 : Int32) g26) fuel0 (0 : Int32) g21))) t 15 0 fuel0 [] [] g6 rfl (by decide) (by have := fuel_big; omega) m1 (Nat.zero_le _) m2
    obtain ⟨g, a1, a2, a3, a4, l14, l0, hA⟩ := k2 l' A' eL
    rw [if_pos (show (0 : Int32) < nI l'.length from nI_lt (a := 0) l0 (by omega)), b0, ob] at eX
    rw [letT_eq, if_neg d10', letT_eq] at a1
    have e27 : (sI g 75 10 0).1 75 27 = nI l'.length := by rw [sI_at, upd_ne _ _ (by decide)]; exact a4.1
    rw [e27] at a1
    have k75 : ∀ c, c ≠ 75 → (sI (sI g 75 10 0) 75 28 (nI l'.length)).1 c = g.1 c := fun c hc => by rw [sI_ne _ _ _ hc, sI_ne _ _ _ hc]
    have j75 : ∀ j, j ≠ 10 → j ≠ 28 → (sI (sI g 75 10 0) 75 28 (nI l'.length)).1 75 j = g.1 75 j := fun j y1 y2 => by rw [sI_at, upd_ne _ _ y2, sI_at, upd_ne _ _ y1]
    have j28 : (sI (sI g 75 10 0) 75 28 (nI l'.length)).1 75 28 = nI l'.length := by rw [sI_at, upd_at]
    have j10 : (sI (sI g 75 10 0) 75 28 (nI l'.length)).1 75 10 = 0 := by rw [sI_at, upd_ne _ _ (by decide), sI_at, upd_at]
    generalize sI (sI g 75 10 0) 75 28 (nI l'.length) = g21 at a1 k75 j75 j28 j10
    obtain ⟨g26, o1, o2, o3⟩ := lawM110 (K := fun (g26 : AH) => fX12_law_l138 fuel0 (0 : Int32) g26) (N := A'.length) (g := g21) (by rw [j75 25 (by decide) (by decide)]; exact a3.1) hA
    rw [o1] at a1
    obtain ⟨g2, d0, d1, d2⟩ := lawM138 (N := l'.length) (g := g26) (by rw [o3 75 (by decide), j75 27 (by decide) (by decide)]; exact a4.1) l14
    have a1' : mo_law (nI n) gc = some (nI l'.length, g2) := (m7.trans a1).trans d0
    -- the cells behind it all
    have G : ∀ c, (c ≠ 1 ∧ c ≠ 75 ∧ (c < 34 ∨ 39 < c) ∧ (c < 42 ∨ 46 < c) ∧ (c < 91 ∨ 101 < c)) → g2.1 c = h.1 c := fun c ⟨y1, y2, y3, y4, y5⟩ => by rw [d2 c (by omega), o3 c (by omega), k75 c y2, a2.1 c y2 (by omega), m5 c y2, gcx c y1 y3 y4]
    have Gc : ∀ c, c ≠ 75 → c < 91 → g2.1 c = gc.1 c := fun c y1 y2 => by rw [d2 c (by omega), o3 c (by omega), k75 c (by omega), a2.1 c y1 (by omega), m5 c (by omega)]
    have G75 : ∀ j, (j ≠ 10 ∧ j ≠ 28 ∧ j ≠ 11 ∧ j ≠ 12 ∧ j ≠ 13 ∧ j ≠ 14 ∧ j ≠ 24 ∧ j ≠ 25 ∧ j ≠ 26 ∧ j ≠ 27) → g2.1 75 j = h.1 75 j := fun j ⟨y1, y2, y3, y4, y5, y6, y7, y8, y9, y10⟩ => by
      rw [d2 75 (by omega), o3 75 (by decide), j75 j y1 y2, a2.2.1 j y3 y5 y6 y7 y8 y9 y10, m6 j y3 y4 y8 y10, gcx 75 (by decide) (by decide) (by decide)]
    have G7528 : g2.1 75 28 = nI l'.length := by rw [d2 75 (by omega), o3 75 (by decide)]; exact j28
    have G7510 : g2.1 75 10 = nI 0 := by rw [d2 75 (by omega), o3 75 (by decide)]; exact j10
    have G11 : g2.1 1 1 = nI 0 := by rw [Gc 1 (by decide) (by decide), bc 1 (by omega), sI_at, upd_at]; rfl
    refine ⟨nI l'.length, gc, g2, eX, a1', ⟨N, M, x, ?_⟩, ?_, ⟨0, by omega, G11, G7510, ?_⟩, l'.length, ?_⟩
    · unfold ScN
      rw [G 6 (by decide), G 3 (by decide), G 4 (by decide), G 8 (by decide), G 9 (by decide), G 10 (by decide), G 7 (by decide), G 11 (by decide), G 12 (by decide), G 13 (by decide), G 5 (by decide), G75 2 (by decide), G75 0 (by decide), G75 1 (by decide), G 76 (by decide), G 78 (by decide), G 79 (by decide), G 80 (by decide), G 77 (by decide), G 81 (by decide)]
      exact H
    · unfold Kp
      rw [G 0 (by decide), G75 55 (by decide)]
      rcases hkp with hkp | ⟨y1, y2, N', M', x', y3⟩
      · exact Or.inl hkp
      · refine Or.inr ⟨y1, y2, N', M', x', ?_⟩
        unfold ScK
        rw [G 17 (by decide), G 14 (by decide), G 15 (by decide), G 19 (by decide), G 20 (by decide), G 21 (by decide), G 18 (by decide), G 22 (by decide), G 23 (by decide), G 24 (by decide), G 16 (by decide), G75 57 (by decide), G75 56 (by decide), G75 58 (by decide), G 111 (by decide), G 113 (by decide), G 114 (by decide), G 115 (by decide), G 112 (by decide), G 116 (by decide)]
        exact y3
    · rw [G 2 (by decide), G 82 (by decide)]
      exact t4
    · refine ⟨l14, ?_, G7528, ?_, fun q hq => ?_, ?_⟩
      · rw [Gc 42 (by decide) (by decide), b1]; exact X1
      · rw [Gc 42 (by decide) (by decide), b2]; exact X2
      · obtain ⟨c, hc⟩ : ∃ c, l'[q]? = some c := ⟨l'[q], List.getElem?_eq_getElem hq⟩
        obtain ⟨u1, u2, u3, u4, u5⟩ := X3 q c hc
        obtain ⟨w1, w2, w3, w4⟩ := a4.2 q c hc
        obtain ⟨y1, y2, y3, y4⟩ := d1 q hq
        rw [o3 93 (by decide), k75 93 (by decide)] at y1
        rw [o3 94 (by decide), k75 94 (by decide)] at y2
        rw [o3 95 (by decide), k75 95 (by decide)] at y3
        rw [o3 96 (by decide), k75 96 (by decide)] at y4
        rw [Gc 42 (by decide) (by decide), Gc 43 (by decide) (by decide), Gc 44 (by decide) (by decide), Gc 45 (by decide) (by decide), Gc 46 (by decide) (by decide), b2]
        refine clz_of (c := c) hS hA hc (fun p op num e => ?_) (fun p op num e => ?_) ?_ ?_ ?_ ?_ (y1.trans w1) (y2.trans w2) (y3.trans w3) (y4.trans w4) (fun z => X5 z q c hc)
        · have lp := (List.getElem?_eq_some_iff.mp e).1
          rw [b3 p (by omega)]
          exact cX.2 p op num e
        · have lp := (List.getElem?_eq_some_iff.mp e).1
          rw [d2 97 (by omega), o2 p lp, k75 91 (by decide)]
          exact a3.2 p op num e
        · rw [b4 q (by omega)]; exact u1
        · rw [b5 q (by omega)]; exact u2
        · rw [b6 q (by omega)]; exact u3
        · rw [b5 (q + 1) (by omega)]; exact u4
      · rw [Gc 38 (by decide) (by decide), bc 38 (by omega), h1c 38 (by decide)]
        exact fx38
