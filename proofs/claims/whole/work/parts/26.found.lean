/-! ===== counting ways, and the first of them ===== -/
theorem for_ex {σ R : Type} {F : Nat → Int32 → σ → R} (E : σ → R) (N : Nat) (hN : N < 2 ^ 31) (I : Nat → σ → Prop)
    (hs : ∀ n k s, k < N → I k s → ∃ s', F (n + 1) (nI k) s = F n (nI (k + 1)) s' ∧ I (k + 1) s') (he : ∀ n s, I N s → F (n + 1) (nI N) s = E s) :
    ∀ (n k : Nat) (s : σ), k ≤ N → N - k < n → I k s → ∃ s', F n (nI k) s = E s' ∧ I N s' := by
  intro n
  induction n with
  | zero => intro k s _ h; exact absurd h (Nat.not_lt_zero _)
  | succ n ih =>
    intro k s hk hn hI
    by_cases hkN : k = N
    · subst hkN
      exact ⟨s, he n s hI, hI⟩
    · obtain ⟨s', h1, h2⟩ := hs n k s (by omega) hI
      obtain ⟨t, h3, h4⟩ := ih (k + 1) s' (by omega) (by omega) h2
      exact ⟨t, h1.trans h3, h4⟩
theorem fst_last (p : Nat → Bool) : ∀ (n k : Nat), fst p k (n + 1) = (match fst p k n with | some j => some j | none => if p (k + n) then some (k + n) else none) := by
  intro n
  induction n with
  | zero =>
    intro k
    show (if p k then some k else none) = _
    rfl
  | succ n ih =>
    intro k
    show (if p k then some k else fst p (k + 1) (n + 1)) = (match (if p k then some k else fst p (k + 1) n) with | some j => some j | none => if p (k + (n + 1)) then some (k + (n + 1)) else none)
    cases hp : p k with
    | true => rfl
    | false =>
      simp only [reduceCtorEq, if_false]
      rw [ih (k + 1), show k + 1 + n = k + (n + 1) by omega]
theorem ct_fst {p : Nat → Bool} {n : Nat} : ct p n = 0 ↔ fst p 0 n = none := by
  induction n with
  | zero => exact ⟨fun _ => rfl, fun _ => rfl⟩
  | succ n ih =>
    rw [ct_succ, fst_last, Nat.zero_add]
    cases hp : p n with
    | true =>
      constructor
      · intro h
        have : (true).toNat = 1 := rfl
        omega
      · intro h
        cases hf : fst p 0 n with
        | none => rw [hf] at h; cases h
        | some j => rw [hf] at h; cases h
    | false =>
      have : (false).toNat = 0 := rfl
      rw [this, Nat.add_zero, ih]
      cases fst p 0 n <;> simp
/-- the model's loops: how many, and the first code (-1: none) -/
theorem mf_loop {R : Type} {F : Nat → Int32 → Int32 → Int32 → R} (Q : Nat → Bool) (L : Nat) (hL : L < 2 ^ 31) (E : Int32 → Int32 → R)
    (hs : ∀ n c many first, c < L → F (n + 1) many first (nI c) = if Q c then F n (many + 1) (if first = -1 then nI c else first) (nI (c + 1)) else F n many first (nI (c + 1)))
    (he : ∀ n many first, F (n + 1) many first (nI L) = E many first) : F fuel0 0 (-1) 0 = E (nI (ct Q L)) (ans (fst Q 0 L)) ∨ fuel0 ≤ L := by
  by_cases hf : fuel0 ≤ L
  · exact Or.inr hf
  · refine Or.inl ?_
    have key := for_up (F := fun n x (s : Nat × Option Nat) => F n (nI s.1) (ans s.2) x) (fun c s => if Q c then (s.1 + 1, match s.2 with | some j => some j | none => some c) else s) (fun s => E (nI s.1) (ans s.2)) L hL (fun c s => s = (ct Q c, fst Q 0 c)) (fun n c s hc hI => by
        have hne : ∀ j, j < c → ¬ nI j = -1 := fun j hj q => nI_pos (n := j) (by omega) (by rw [q]; decide)
        refine ⟨?_, ?_⟩
        · show F (n + 1) (nI s.1) (ans s.2) (nI c) = _
          rw [hs n c _ _ hc]
          cases hQ : Q c with
          | false => rfl
          | true =>
            rw [if_pos rfl, if_pos rfl, nI_1]
            show _ = F n (nI (s.1 + 1)) (ans (match s.2 with | some j => some j | none => some c)) (nI (c + 1))
            cases h2 : s.2 with
            | none => rw [if_pos (by rfl)]; rfl
            | some j =>
              rw [hI] at h2
              have := (fst_some h2).2.1
              rw [if_neg (show ¬ ans (some j) = -1 from hne j (by omega))]
        · show (if Q c then (s.1 + 1, match s.2 with | some j => some j | none => some c) else s) = _
          rw [ct_succ, fst_last, Nat.zero_add, hI]
          cases hQ : Q c with
          | false =>
            simp only [reduceCtorEq, if_false]
            show (ct Q c, fst Q 0 c) = (ct Q c + 0, _)
            rw [Nat.add_zero]
            cases fst Q 0 c <;> rfl
          | true =>
            simp only [if_true]
            rfl) (fun n s _ => he n _ _) fuel0 0 (0, none) (by omega) (by omega) rfl
    rw [Nat.sub_zero] at key
    have e := key.2
    have k1 : F fuel0 0 (-1) 0 = E (nI (itf (fun c s => if Q c then (s.1 + 1, match s.2 with | some j => some j | none => some c) else s) 0 L (0, (none : Option Nat))).1) (ans (itf (fun c s => if Q c then (s.1 + 1, match s.2 with | some j => some j | none => some c) else s) 0 L (0, (none : Option Nat))).2) := key.1
    rw [k1, e]
theorem mf_loop' {R : Type} {F : Nat → Int32 → Int32 → Int32 → R} (Q : Nat → Bool) (L : Nat) (hL : L < 1000000) (E : Int32 → Int32 → R)
    (hs : ∀ n c many first, c < L → F (n + 1) many first (nI c) = if Q c then F n (many + 1) (if first = -1 then nI c else first) (nI (c + 1)) else F n many first (nI (c + 1)))
    (he : ∀ n many first, F (n + 1) many first (nI L) = E many first) : F fuel0 0 (-1) 0 = E (nI (ct Q L)) (ans (fst Q 0 L)) :=
  (mf_loop Q L (by omega) E hs he).resolve_right (by have := fuel_big; omega)
/-- the class's row of what was found: n ways, the first of them -/
def FR (r : Rw) (n : Nat) (o : Option (Int32 × Int32 × Int32)) : Prop := r 0 = nI n ∧ (match o with | none => n = 0 ∧ r 1 = -2 ∧ r 2 = -2 ∧ r 3 = -2 | some t => 0 < n ∧ r 1 = t.1 ∧ r 2 = t.2.1 ∧ r 3 = t.2.2)
theorem forget_eq {h : AH} : ∃ r, fX11_forgetFound h = some (sR h 52 r) ∧ FR r 0 none := by
  unfold fX11_forgetFound
  dsimp only [letT]
  rw [show (0 : Int32) = nI 0 from rfl, put_in (show 0 < aln 52 by decide), sI_sR]
  obtain ⟨n, hn⟩ := fuel_plus 4 (by decide)
  have st : ∀ (m k : Nat) (r : Rw), k < 4 → fX11_forgetFound_l11 (m + 1) (nI k) (sR h 52 r) = fX11_forgetFound_l11 m (nI (k + 1)) (sR h 52 (upd r k (-2))) := by
    intro m k r hk
    show fX11_forgetFound_l11b (fX11_forgetFound_l11 m) (nI k) (sR h 52 r) = _
    unfold fX11_forgetFound_l11b
    rw [if_pos (show nI k < 4 from nI_lt (b := 4) hk (by decide)), put_in (show k < aln 52 from hk), nI_1, sI_R]
    rfl
  rw [hn]
  show ∃ r, fX11_forgetFound_l11 (n + 3 + 1) (nI 1) (sR h 52 (upd (h.1 52) 0 (nI 0))) = _ ∧ _
  rw [st (n + 3) 1 _ (by decide), st (n + 2) 2 _ (by decide), st (n + 1) 3 _ (by decide)]
  refine ⟨upd (upd (upd (upd (h.1 52) 0 (nI 0)) 1 (-2)) 2 (-2)) 3 (-2), ?_, rfl, rfl, rfl, rfl, rfl⟩
  show fX11_forgetFound_l11b (fX11_forgetFound_l11 n) (nI 4) _ = _
  unfold fX11_forgetFound_l11b
  rw [if_neg (by decide)]
theorem note_eq {h : AH} {n : Nat} {o : Option (Int32 × Int32 × Int32)} (a b c : Int32) (hf : FR (h.1 52) n o) (hn : n < 1000000) : ∃ r, fX11_noteFound a b c h = sR h 52 r ∧ FR r (n + 1) (some (o.getD (a, b, c))) := by
  unfold fX11_noteFound
  dsimp only [letT]
  rw [show (0 : Int32) = nI 0 from rfl, show (1 : Int32) = nI 1 from rfl, show (2 : Int32) = nI 2 from rfl, show (3 : Int32) = nI 3 from rfl]
  have l0 : 0 < aln 52 := by decide
  have l1 : 1 < aln 52 := by decide
  have l2 : 2 < aln 52 := by decide
  have l3 : 3 < aln 52 := by decide
  simp only [put_in l0, put_in l1, put_in l2, put_in l3, at_in l0, sI_sR, sR_at, sR_sR]
  obtain ⟨f0, f1⟩ := hf
  rw [f0]
  cases o with
  | none =>
    obtain ⟨rfl, -⟩ := f1
    rw [if_pos rfl]
    refine ⟨_, rfl, ?_, by omega, rfl, rfl, rfl⟩
    show upd (upd (upd (h.1 52) 1 a) 2 b) 3 c 0 + nI 1 = nI 1
    have : upd (upd (upd (h.1 52) 1 a) 2 b) 3 c 0 = nI 0 := f0
    rw [this]
    rfl
  | some t =>
    obtain ⟨hpos, e1, e2, e3⟩ := f1
    rw [if_neg (ne_lit (by omega) (by decide) (by omega))]
    refine ⟨_, rfl, ?_, by omega, e1, e2, e3⟩
    show nI n + nI 1 = nI (n + 1)
    exact nI_add n 1
/-- what is told of the row -/
theorem FR.ask {r : Rw} {n : Nat} {o : Option (Int32 × Int32 × Int32)} (hf : FR r n o) : r 0 = nI n ∧ r 1 = o.elim (-2) (fun t => t.1) ∧ r 2 = o.elim (-2) (fun t => t.2.1) ∧ r 3 = o.elim (-2) (fun t => t.2.2) := by
  obtain ⟨f0, f1⟩ := hf
  cases o with
  | none => exact ⟨f0, f1.2.1, f1.2.2.1, f1.2.2.2⟩
  | some t => exact ⟨f0, f1.2.1, f1.2.2.1, f1.2.2.2⟩
