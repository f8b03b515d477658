/-! ===== what is read does ===== -/
def SmP (P : Pr) (D : Nat → Nat) (bl : Bool) : Prop := ∀ o p A A' q, o ≤ 6 → P o p A = .inr (A', q) → Sgm A' A.length A'.length (D o) bl
def dE (o : Nat) : Nat := 2 * (6 - o) + 3
def dF (o : Nat) : Nat := 2 * (6 - o) + 1
section Does
variable {B : Nat → Int32} {n : Nat}
theorem pFac_sm {ps : Pr} (t : Txt B n) (s : SmP ps dE false) : SmP (pFac B ps) dF false := by
  intro o p A A' q ho h
  unfold pFac at h
  have one : 1 ≤ dF o := by unfold dF; omega
  by_cases c91 : B p = nI 91
  · rw [if_pos c91] at h
    by_cases o6 : o < 6
    · rw [if_pos o6] at h
      cases e : ps (o + 1) (p + 1) A with
      | inl f => rw [e] at h; cases h
      | inr x =>
        rw [e] at h
        dsimp only at h
        have sg := s _ _ _ _ _ (show o + 1 ≤ 6 by omega) e
        by_cases c93 : B x.2 = nI 93
        · rw [if_pos c93] at h
          injection Sum.inr.inj h with h1 h2
          subst h1
          exact sg.deep (by unfold dE dF; omega)
        · rw [if_neg c93] at h; cases h
    · rw [if_neg o6] at h; cases h
  · rw [if_neg c91] at h
    cases ed : dg (B p) with
    | some d =>
      rw [ed] at h
      cases e : pN5 B 5 p 0 with
      | inl f => rw [e] at h; cases h
      | inr x =>
        rw [e] at h
        obtain ⟨-, -, b3⟩ := pN5_lt (w := x.1) (q := x.2) t ed e
        injection Sum.inr.inj h with h1 h2
        subst h1
        exact (sgm_push b3).deep one
    | none =>
      rw [ed] at h
      cases e : fct (B p) with
      | none => rw [e] at h; cases h
      | some i =>
        rw [e] at h
        injection Sum.inr.inj h with h1 h2
        subst h1
        exact (sgm_fact (fct_ok t e).2).deep one
def ELI (A : Cd) (b o : Nat) (S : Option Nat) : Prop := (S = none → Sgm A b A.length (dF o + 1) false) ∧ ∀ i, S = some i → i < 8 ∧ ∃ m, Sgm A b m (dF o + 2) false ∧ Sgm A m A.length (dF o + 1) false
theorem lastAt (A : Cd) (x : Nat × Nat) : (A ++ [x])[A.length]? = some x := by rw [List.getElem?_append_right (Nat.le_refl _), Nat.sub_self]; rfl
theorem ELI.fin {A : Cd} {b o : Nat} {S : Option Nat} (e : ELI A b o S) : Sgm (A ++ sOp S) b (A ++ sOp S).length (dF o + 2) false := by
  cases S with
  | none =>
    have : A ++ sOp none = A := List.append_nil A
    rw [this]
    exact (e.1 rfl).deep (by omega)
  | some i =>
    obtain ⟨hi, m, s1, s2⟩ := e.2 i rfl
    show Sgm (A ++ [(5 + i, 0)]) b (A ++ [(5 + i, 0)]).length _ _
    rw [len1]
    have h1 := s1.same (A' := A ++ [(5 + i, 0)]) (by rw [len1]; have := s2.1; omega) (fun p _ hp => get1 (by have := s2.1; omega))
    have h2 := s2.same (A' := A ++ [(5 + i, 0)]) (by rw [len1]; omega) (fun p _ hp => get1 hp)
    exact (sgm_bin h1 h2 (lastAt A _) hi).int
theorem pELp_sm {pf : Pr} {o b : Nat} (t : Txt B n) (ho : o ≤ 6) (g : GdP n pf) (s : SmP pf dF false) : ∀ (k p : Nat) (A : Cd) (S : Option Nat) {A' : Cd} {q : Nat}, pELp B pf o k p A S = .inr (A', q) → ELI A b o S → Sgm A' b A'.length (dF o + 2) false := by
  intro k
  induction k with
  | zero => intro p A S A' q h; cases h
  | succ k ih =>
    intro p A S A' q h I
    unfold pELp at h
    cases em : mulI (B p) with
    | some i =>
      rw [em] at h
      obtain ⟨-, i1, i2⟩ := mul_in t em
      cases e : pf o (p + 1) A with
      | inl f => rw [e] at h; cases h
      | inr x =>
        rw [e] at h
        obtain ⟨-, -, a3, -, a5⟩ := g _ _ _ _ _ e
        have sf := s _ _ _ _ _ ho e
        refine ih _ _ _ h ?_
        have up : ∀ {u w d bl}, Sgm A u w d bl → w ≤ A.length → Sgm (x.1 ++ [(5 + i, 0)]) u w d bl := fun sg hw => sg.same (by rw [len1]; omega) (fun p' _ hp => by rw [get1 (by omega)]; exact a5 p' (by omega))
        have sf' := sf.same (A' := x.1 ++ [(5 + i, 0)]) (by rw [len1]; omega) (fun p' _ hp => get1 hp)
        have term : ∀ u, Sgm A u A.length (dF o + 1) false → Sgm (x.1 ++ [(5 + i, 0)]) u (x.1 ++ [(5 + i, 0)]).length (dF o + 1) false := fun u su => by
          rw [len1]
          exact (sgm_bin (up su (Nat.le_refl _)) sf' (lastAt x.1 _) (by omega)).int
        refine ⟨fun hS => term b (I.1 hS), fun i' hS => ?_⟩
        obtain ⟨hi', m, s1, s2⟩ := I.2 i' hS
        exact ⟨hi', m, up s1 (by have := s2.1; omega), term m s2⟩
    | none =>
      rw [em] at h
      dsimp only at h
      cases ea : addI (B p) with
      | some i =>
        rw [ea] at h
        obtain ⟨-, i1⟩ := add_in t ea
        cases e : pf o (p + 1) (A ++ sOp S) with
        | inl f => rw [e] at h; cases h
        | inr x =>
          rw [e] at h
          obtain ⟨-, -, a3, -, a5⟩ := g _ _ _ _ _ e
          have sf := s _ _ _ _ _ ho e
          refine ih _ _ _ h ⟨fun hS => (by cases hS), fun i' hS => ?_⟩
          have : i = i' := Option.some.inj hS
          subst this
          refine ⟨by omega, (A ++ sOp S).length, I.fin.same (by omega) (fun p' _ hp => a5 p' hp), sf.deep (by omega)⟩
      | none =>
        rw [ea] at h
        injection Sum.inr.inj h with h1 h2
        subst h1
        exact I.fin
theorem pSum_sm {pf : Pr} (t : Txt B n) (g : GdP n pf) (s : SmP pf dF false) : SmP (pSum B pf) dE false := by
  intro o p A A' q ho h
  unfold pSum at h
  cases e : pf o p A with
  | inl f => rw [e] at h; cases h
  | inr x =>
    rw [e] at h
    have sf := s _ _ _ _ _ ho e
    have := pELp_sm (b := A.length) t ho g s _ _ _ _ h ⟨fun _ => sf.deep (by omega), fun i hS => (by cases hS)⟩
    exact this.deep (by unfold dE dF; omega)
theorem pSumD_sm (t : Txt B n) : ∀ d, SmP (pSumD B d) dE false := by
  intro d
  induction d with
  | zero => intro o p A A' q ho h; cases h
  | succ d ih => exact pSum_sm t (pFac_gd t (pSumD_gd t d)) (pFac_sm t ih)
def CLI (A : Cd) (b : Nat) (r a : Option Nat) : Prop := ∃ s, (r = none → s = b) ∧ (∀ j, r = some j → s = j + 1 ∧ A[j]? = some (4, 0) ∧ Sgm A b j 16 true) ∧ (a = none → Sgm A s A.length 16 true) ∧ ∀ i, a = some i → A[i]? = some (3, 0) ∧ Sgm A s i 16 true ∧ Sgm A (i + 1) A.length 16 true
theorem CLI.aim1 {A : Cd} {b : Nat} {r a : Option Nat} (I : CLI A b r a) : CLI (aim A a) b r none ∧ ∀ j, r = some j → a ≠ some j := by
  obtain ⟨s, h1, h2, h3, h4⟩ := I
  cases a with
  | none => exact ⟨⟨s, h1, h2, fun _ => h3 rfl, fun i q => (by cases q)⟩, fun j _ q => (by cases q)⟩
  | some i =>
    obtain ⟨e, s1, s2⟩ := h4 i rfl
    have hsi := s1.1
    have ne : ∀ {k}, k ≠ i → (aim A (some i))[k]? = A[k]? := fun {k} hk => aim_ne (fun q => hk (Option.some.inj q).symm)
    refine ⟨⟨s, h1, fun j q => ?_, fun _ => ?_, fun i q => (by cases q)⟩, fun j q z => ?_⟩
    · obtain ⟨x1, x2, x3⟩ := h2 j q
      have := x3.2.1
      exact ⟨x1, by rw [ne (by omega)]; exact x2, x3.same (by rw [aim_len]; omega) (fun p _ hp => ne (by omega))⟩
    · have sa := s1.same (A' := aim A (some i)) (by rw [aim_len]; have := s2.1; omega) (fun p _ hp => ne (by omega))
      have sb := s2.same (A' := aim A (some i)) (by rw [aim_len]; omega) (fun p hp _ => ne (by omega))
      rw [aim_len]
      exact sgm_and sa (aim_at e) sb
    · have := (h2 j q).1
      have : i = j := Option.some.inj z
      omega
theorem CLI.aim2 {A : Cd} {b : Nat} {r : Option Nat} (I : CLI A b r none) : Sgm (aim A r) b (aim A r).length 16 true := by
  obtain ⟨s, h1, h2, h3, -⟩ := I
  have st := h3 rfl
  rw [aim_len]
  cases r with
  | none =>
    rw [h1 rfl] at st
    exact st
  | some j =>
    obtain ⟨x1, x2, x3⟩ := h2 j rfl
    have ne : ∀ {k}, k ≠ j → (aim A (some j))[k]? = A[k]? := fun {k} hk => aim_ne (fun q => hk (Option.some.inj q).symm)
    rw [x1] at st
    have sa := x3.same (A' := aim A (some j)) (by rw [aim_len]; have := st.1; omega) (fun p _ hp => ne (by omega))
    have sb := st.same (A' := aim A (some j)) (by rw [aim_len]; omega) (fun p hp _ => ne (by omega))
    exact sgm_or sa (aim_at x2) sb
theorem pCLp_sm {pp : Pr} {o b : Nat} (t : Txt B n) (ho : o ≤ 6) (g : GdP n pp) (s : SmP pp (fun _ => 16) true) : ∀ (k p : Nat) (A : Cd) (r a : Option Nat) {A' : Cd} {q : Nat}, pCLp B pp o k p A r a = .inr (A', q) → CLI A b r a → Sgm A' b A'.length 16 true := by
  intro k
  induction k with
  | zero => intro p A r a A' q h; cases h
  | succ k ih =>
    intro p A r a A' q h I
    obtain ⟨I1, -⟩ := I.aim1
    have I2 := I1.aim2
    unfold pCLp at h
    by_cases c1 : B p = nI 38
    · rw [if_pos c1] at h
      cases e : pp o (p + 1) (aim A a ++ [(3, 0)]) with
      | inl f => rw [e] at h; cases h
      | inr x =>
        rw [e] at h
        obtain ⟨-, -, a3, -, a5⟩ := g _ _ _ _ _ e
        have sp := s _ _ _ _ _ ho e
        rw [len1] at a3 sp
        refine ih _ _ _ _ h ?_
        have up : ∀ {u w}, Sgm (aim A a) u w 16 true → w ≤ (aim A a).length → Sgm x.1 u w 16 true := fun sg hw => sg.same (by omega) (fun p' _ hp => by rw [a5 p' (by rw [len1]; omega), get1 (by omega)])
        obtain ⟨s0, h1, h2, h3, -⟩ := I1
        refine ⟨s0, h1, fun j q => ?_, fun q => (by cases q), fun i q => ?_⟩
        · obtain ⟨x1, x2, x3⟩ := h2 j q
          have lj := (List.getElem?_eq_some_iff.mp x2).1
          exact ⟨x1, by rw [a5 j (by rw [len1]; omega), get1 lj]; exact x2, up x3 (by omega)⟩
        · have : (aim A a).length = i := Option.some.inj q
          subst this
          exact ⟨by rw [a5 _ (by rw [len1]; omega)]; exact lastAt _ _, up (h3 rfl) (Nat.le_refl _), sp⟩
    · rw [if_neg c1] at h
      by_cases c2 : B p = nI 124
      · rw [if_pos c2] at h
        cases e : pp o (p + 1) (aim (aim A a) r ++ [(4, 0)]) with
        | inl f => rw [e] at h; cases h
        | inr x =>
          rw [e] at h
          obtain ⟨-, -, a3, -, a5⟩ := g _ _ _ _ _ e
          have sp := s _ _ _ _ _ ho e
          rw [len1] at a3 sp
          refine ih _ _ _ _ h ⟨(aim (aim A a) r).length + 1, fun q => (by cases q), fun j q => ?_, fun _ => sp, fun i q => (by cases q)⟩
          have : (aim (aim A a) r).length = j := Option.some.inj q
          subst this
          exact ⟨rfl, by rw [a5 _ (by rw [len1]; omega)]; exact lastAt _ _, I2.same (by omega) (fun p' _ hp => by rw [a5 p' (by rw [len1]; omega), get1 hp])⟩
      · rw [if_neg c2] at h
        injection Sum.inr.inj h with h1 h2
        subst h1
        exact I2
theorem pChoice_sm {pp : Pr} (t : Txt B n) (g : GdP n pp) (s : SmP pp (fun _ => 16) true) : SmP (pChoice B pp) (fun _ => 16) true := by
  intro o p A A' q ho h
  unfold pChoice at h
  cases e : pp o p A with
  | inl f => rw [e] at h; cases h
  | inr x =>
    rw [e] at h
    exact pCLp_sm (b := A.length) t ho g s _ _ _ _ _ h ⟨A.length, fun _ => rfl, fun j q => (by cases q), fun _ => s _ _ _ _ _ ho e, fun i q => (by cases q)⟩
theorem pPiece_sm {pp pc : Pr} (t : Txt B n) (s : SmP pp (fun _ => 16) true) (sc : SmP pc (fun _ => 16) true) : SmP (pPiece B pp pc) (fun _ => 16) true := by
  intro o p A A' q ho h
  unfold pPiece at h
  by_cases c1 : B p = nI 33
  · rw [if_pos c1] at h
    by_cases o6 : o < 6
    · rw [if_pos o6] at h
      cases e : pp (o + 1) (p + 1) A with
      | inl f => rw [e] at h; cases h
      | inr x =>
        rw [e] at h
        have sg := s _ _ _ _ _ (show o + 1 ≤ 6 by omega) e
        injection Sum.inr.inj h with h1 h2
        subst h1
        rw [len1]
        exact sgm_not (sg.same (by rw [len1]; omega) (fun p' _ hp => get1 hp)) (lastAt x.1 _)
    · rw [if_neg o6] at h; cases h
  · rw [if_neg c1] at h
    by_cases c2 : B p = nI 40
    · rw [if_pos c2] at h
      by_cases o6 : o < 6
      · rw [if_pos o6] at h
        cases e : pc (o + 1) (p + 1) A with
        | inl f => rw [e] at h; cases h
        | inr x =>
          rw [e] at h
          dsimp only at h
          by_cases c41 : B x.2 = nI 41
          · rw [if_pos c41] at h
            injection Sum.inr.inj h with h1 h2
            subst h1
            exact sc _ _ _ _ _ (show o + 1 ≤ 6 by omega) e
          · rw [if_neg c41] at h; cases h
      · rw [if_neg o6] at h; cases h
    · rw [if_neg c2] at h
      cases e : pSumD B 8 o p A with
      | inl f => rw [e] at h; cases h
      | inr x =>
        rw [e] at h
        dsimp only at h
        cases ec : cmpI (B x.2) with
        | none => rw [ec] at h; cases h
        | some i =>
          rw [ec] at h
          dsimp only at h
          obtain ⟨-, i1, i2⟩ := cmp_in t ec
          cases e2 : pSumD B 8 o (x.2 + 1) x.1 with
          | inl f => rw [e2] at h; cases h
          | inr y =>
            rw [e2] at h
            obtain ⟨-, -, b3, -, b5⟩ := pSumD_gd t 8 _ _ _ _ _ e2
            have s1 := pSumD_sm t 8 _ _ _ _ _ ho e
            have s2 := pSumD_sm t 8 _ _ _ _ _ ho e2
            injection Sum.inr.inj h with h1 h2
            subst h1
            rw [len1]
            have u1 := (s1.same (A' := y.1 ++ [(5 + i, 0)]) (by rw [len1]; omega) (fun p' _ hp => by rw [get1 (by omega)]; exact b5 p' hp)).deep (show dE o ≤ 15 + 1 by unfold dE; omega)
            have u2 := (s2.same (A' := y.1 ++ [(5 + i, 0)]) (by rw [len1]; omega) (fun p' _ hp => get1 hp)).deep (show dE o ≤ 15 by unfold dE; omega)
            have := sgm_bin u1 u2 (lastAt y.1 _) (by omega)
            rw [decide_eq_true i1] at this
            exact this
theorem pPieceD_sm (t : Txt B n) : ∀ d, SmP (pPieceD B d) (fun _ => 16) true := by
  intro d
  induction d with
  | zero => intro o p A A' q ho h; cases h
  | succ d ih => exact pPiece_sm t ih (pChoice_sm t (pPieceD_gd t d) ih)
end Does
