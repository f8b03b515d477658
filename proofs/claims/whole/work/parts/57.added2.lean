/-! ===== added: the sets of lines that a slip bends ===== -/
def bnS (m : Rw → Nat → Int32) (N : Nat) (T : Rw) (i v : Nat) : Nat := bs (df (slp m N i (nI v) T) T) N
def bnO (m : Rw → Nat → Int32) (N : Nat) (T : Rw) (i v : Nat) : Bool := !decide (nI v = T i) && !(bnS m N T i v).testBit (N - 1)
theorem slp_at {m : Rw → Nat → Int32} {N i : Nat} {v : Int32} {r : Rw} : slp m N i v r i = v := by
  unfold slp
  rw [wk_out (Or.inl (by omega)), upd_at]
theorem slp_lo {m : Rw → Nat → Int32} {N i k : Nat} {v : Int32} {r : Rw} (hk : k < i) : slp m N i v r k = r k := by
  unfold slp
  rw [wk_out (Or.inl (by omega)), upd_ne _ _ (by omega)]
theorem bnS_cong {m m' : Rw → Nat → Int32} {N i v : Nat} {T T' : Rw} (hm : ∀ i, i < N → ∀ r r', eqOn i r r' → m r i = m' r' i) (hi : i < N) (hT : eqOn N T T') : bnS m N T i v = bnS m' N T' i v := bs_cong (fun k hk => df_cong (slp_cong hm hi hT) hT k hk)
theorem bnO_cong {m m' : Rw → Nat → Int32} {N i v : Nat} {T T' : Rw} (hm : ∀ i, i < N → ∀ r r', eqOn i r r' → m r i = m' r' i) (hi : i < N) (hT : eqOn N T T') : bnO m N T i v = bnO m' N T' i v := by
  unfold bnO
  rw [bnS_cong hm hi hT, hT i hi]
theorem bnS_bit {m : Rw → Nat → Int32} {N i v k : Nat} {T : Rw} : (bnS m N T i v).testBit k = (decide (k < N) && df (slp m N i (nI v) T) T k) := bs_bit _ _ _
theorem bnS_ok {m : Rw → Nat → Int32} {N i v : Nat} {T : Rw} (hi : i < N) (ok : bnO m N T i v = true) : i < N - 1 ∧ (bnS m N T i v).testBit i = true ∧ (∀ k, k < i → (bnS m N T i v).testBit k = false) ∧ bnS m N T i v < 2 ^ (N - 1) := by
  unfold bnO at ok
  simp only [Bool.and_eq_true, Bool.not_eq_true', decide_eq_false_iff_not] at ok
  obtain ⟨o1, o2⟩ := ok
  have hb : (bnS m N T i v).testBit i = true := by
    rw [bnS_bit]
    unfold df
    rw [slp_at]
    simp [hi, o1]
  have hlt : i < N - 1 := by
    by_cases e : i = N - 1
    · rw [← e, hb] at o2; cases o2
    · omega
  refine ⟨hlt, hb, fun k hk => ?_, ?_⟩
  · rw [bnS_bit]
    unfold df
    rw [slp_lo hk]
    simp
  · refine Nat.lt_pow_two_of_testBit _ (fun k hk => ?_)
    by_cases e : k = N - 1
    · rw [e]; exact o2
    · rw [bnS_bit]
      have : ¬ k < N := by omega
      simp [this]
theorem bnS_zero {m : Rw → Nat → Int32} {N i v : Nat} {T : Rw} (hm : ∀ i, i < N → ∀ r r', eqOn i r r' → m r i = m r' i) (hT : ∀ j, j < N → T j = m T j) (hi : i < N) : bnS m N T i v = 0 ↔ nI v = T i := by
  unfold bnS
  rw [bs_zero]
  constructor
  · intro h
    have := h i hi
    unfold df at this
    rw [slp_at] at this
    simpa using this
  · intro e k hk
    have q : eqOn N (slp m N i (nI v) T) T := by
      refine wk_uniq (M := m) (M' := m) (k := i + 1) hm ?_ ?_ (fun j _ hj => hT j hj)
      · intro j hj
        by_cases c : j = i
        · rw [c, slp_at, e]
        · exact slp_lo (by omega)
      · intro j h1 h2
        exact wk_in' (M := m) (N := N) hm h1 (by omega) (by omega)
    unfold df
    rw [q k hk]
    simp
/-- the class's list of sets, in its rows -/
def EncC (g : AH) (l : List Nat) : Prop := g.1 62 4 = nI l.length ∧ ∀ q s, l[q]? = some s → g.1 65 q = nI s
def inF (l : List Nat) (s q : Nat) : Bool := decide (l[q]? = some s)
def adl (l : List Nat) (a s : Nat) : List Nat := if (fst (inF l s) a (l.length - a)).isNone then l ++ [s] else l
theorem addSet_eq {g : AH} {l : List Nat} {a s : Nat} (E : EncC g l) (hl : l.length < 1940) (ha : a ≤ l.length) (hb : ∀ t ∈ l, t < 2 ^ 20) (hs : s < 2 ^ 20) : ∃ g', fX2_addSet (nI s) (nI a) g = some g' ∧ EncC g' (adl l a s) ∧ (∀ c, c ≠ 62 → c ≠ 65 → g'.1 c = g.1 c) := by
  obtain ⟨e1, e2⟩ := E
  unfold fX2_addSet
  have k := for_fst (F := fun m xx => fX2_addSet_l2 (letT (fX11_put 65 (g.1 62 4) (nI s) g) (fun g3 => letT (sI g3 62 4 ((g3.1 62 4) + (1 : Int32))) (fun g4 => some g4))) (nI s) g m xx) (inF l s) (fun _ => some g) (some (sI (sI g 65 l.length (nI s)) 62 4 (nI (l.length + 1)))) l.length (by omega) (fun m i hi => by
      show fX2_addSet_l2b (fX2_addSet_l2 _ (nI s) g m) _ (nI s) g (nI i) = _
      unfold fX2_addSet_l2b
      obtain ⟨t, ht⟩ : ∃ t, l[i]? = some t := ⟨l[i], List.getElem?_eq_getElem hi⟩
      have tb := hb t (List.mem_of_getElem? ht)
      rw [e1, if_pos (nI_lt hi (by omega)), at_in (show i < aln 65 by show _ < 1940; omega), e2 i t ht, nI_1]
      unfold inF
      rw [ht]
      by_cases e : t = s
      · rw [if_pos (by rw [e]), if_pos (by rw [e]; simp)]
      · rw [if_neg (ne_lit (by omega) (by omega) e), if_neg (by simpa using e)]) (fun m => by
      show fX2_addSet_l2b (fX2_addSet_l2 _ (nI s) g m) _ (nI s) g (nI l.length) = _
      unfold fX2_addSet_l2b
      rw [e1, if_neg (nI_nlt (Nat.le_refl _) (by omega)), put_in (show l.length < aln 65 from hl)]
      dsimp only [letT]
      rw [show (sI g 65 l.length (nI s)).1 62 4 = nI l.length from e1, nI_1]) fuel0 a ha (by have := fuel_big; omega)
  rw [e1] at k
  unfold adl
  rw [e1]
  cases hf : fst (inF l s) a (l.length - a) with
  | some j =>
    rw [hf] at k
    exact ⟨g, k, ⟨e1, e2⟩, fun _ _ _ => rfl⟩
  | none =>
    rw [hf] at k
    refine ⟨_, k, ⟨?_, fun q t hq => ?_⟩, fun c h1 h2 => ?_⟩
    · show nI (l.length + 1) = nI (l ++ [s]).length
      rw [List.length_append]
      rfl
    · show upd (g.1 65) l.length (nI s) q = nI t
      by_cases e : q = l.length
      · rw [e, upd_at]
        simp only [Option.isNone, if_true] at hq
        rw [e, List.getElem?_append_right (Nat.le_refl _), Nat.sub_self] at hq
        rw [← Option.some.inj hq]
      · rw [upd_ne _ _ e]
        simp only [Option.isNone, if_true] at hq
        by_cases lt : q < l.length
        · rw [List.getElem?_append_left lt] at hq
          exact e2 q t hq
        · have : (l ++ [s]).length ≤ q := by rw [List.length_append]; simp only [List.length_cons, List.length_nil]; omega
          rw [List.getElem?_eq_none this] at hq
          cases hq
    · show (sI (sI g 65 l.length (nI s)) 62 4 (nI (l.length + 1))).1 c = _
      rw [sI_ne _ _ _ h1, sI_ne _ _ _ h2]
/-- what the list holds, in the class's order -/
def Col (O : Nat → Nat → Bool) (S : Nat → Nat → Nat) (M : Nat) (l : List Nat) (σ : Nat → Nat) (i v : Nat) : Prop :=
  σ 0 = 0 ∧ (∀ j, j < i → σ j ≤ σ (j + 1)) ∧ σ i ≤ l.length ∧ l.length ≤ i * M + v ∧ (∀ j, j < i → ∀ s, (∃ q, σ j ≤ q ∧ q < σ (j + 1) ∧ l[q]? = some s) ↔ ∃ u, u < M ∧ O j u = true ∧ S j u = s) ∧ ∀ s, (∃ q, σ i ≤ q ∧ l[q]? = some s) ↔ ∃ u, u < v ∧ O i u = true ∧ S i u = s
theorem Col.mono {O : Nat → Nat → Bool} {S : Nat → Nat → Nat} {M i v : Nat} {l : List Nat} {σ : Nat → Nat} (C : Col O S M l σ i v) : ∀ {j : Nat}, j ≤ i → σ j ≤ σ i := by
  have key : ∀ d j, j + d = i → σ j ≤ σ i := by
    intro d
    induction d with
    | zero => intro j e; rw [← e]; exact Nat.le_refl _
    | succ d ih => intro j e; exact Nat.le_trans (C.2.1 j (by omega)) (ih (j + 1) (by omega))
  intro j hj
  exact key (i - j) j (by omega)
theorem Col.skip {O : Nat → Nat → Bool} {S : Nat → Nat → Nat} {M i v : Nat} {l : List Nat} {σ : Nat → Nat} (C : Col O S M l σ i v) (h : O i v = false) : Col O S M l σ i (v + 1) := by
  obtain ⟨c1, c2, c3, c4, c5, c6⟩ := C
  refine ⟨c1, c2, c3, by omega, c5, fun s => ?_⟩
  rw [c6 s]
  constructor
  · rintro ⟨u, a, b, c⟩; exact ⟨u, by omega, b, c⟩
  · rintro ⟨u, a, b, c⟩
    by_cases e : u = v
    · rw [e, h] at b; cases b
    · exact ⟨u, by omega, b, c⟩
theorem Col.add {O : Nat → Nat → Bool} {S : Nat → Nat → Nat} {M i v : Nat} {l : List Nat} {σ : Nat → Nat} (C : Col O S M l σ i v) (h : O i v = true) : Col O S M (adl l (σ i) (S i v)) σ i (v + 1) := by
  have mono : ∀ j, j ≤ i → σ j ≤ σ i := fun j hj => C.mono hj
  obtain ⟨c1, c2, c3, c4, c5, c6⟩ := C
  unfold adl
  cases hf : fst (inF l (S i v)) (σ i) (l.length - σ i) with
  | some q =>
    obtain ⟨f1, f2, f3, -⟩ := fst_some hf
    unfold inF at f3
    rw [decide_eq_true_eq] at f3
    simp only [Option.isNone, Bool.false_eq_true, if_false]
    refine ⟨c1, c2, c3, by omega, c5, fun s => ?_⟩
    rw [c6 s]
    constructor
    · rintro ⟨u, a, b, c⟩; exact ⟨u, by omega, b, c⟩
    · rintro ⟨u, a, b, c⟩
      by_cases e : u = v
      · rw [e] at c
        rw [c] at f3
        exact (c6 s).mp ⟨q, f1, f3⟩
      · exact ⟨u, by omega, b, c⟩
  | none =>
    simp only [Option.isNone, if_true]
    have len : (l ++ [S i v]).length = l.length + 1 := by rw [List.length_append]; rfl
    refine ⟨c1, c2, by omega, by omega, fun j hj s => ?_, fun s => ?_⟩
    · rw [← c5 j hj s]
      have m1 := mono (j + 1) (by omega)
      constructor
      · rintro ⟨q, a, b, c⟩
        rw [List.getElem?_append_left (by omega)] at c
        exact ⟨q, a, b, c⟩
      · rintro ⟨q, a, b, c⟩
        exact ⟨q, a, b, by rw [List.getElem?_append_left (by omega)]; exact c⟩
    · constructor
      · rintro ⟨q, a, b⟩
        by_cases lt : q < l.length
        · rw [List.getElem?_append_left lt] at b
          obtain ⟨u, x, y, z⟩ := (c6 s).mp ⟨q, a, b⟩
          exact ⟨u, by omega, y, z⟩
        · have lq : q < (l ++ [S i v]).length := (List.getElem?_eq_some_iff.mp b).1
          have e : q = l.length := by omega
          rw [e, List.getElem?_append_right (Nat.le_refl _), Nat.sub_self] at b
          exact ⟨v, by omega, h, Option.some.inj b⟩
      · rintro ⟨u, a, b, c⟩
        by_cases e : u = v
        · refine ⟨l.length, c3, ?_⟩
          rw [List.getElem?_append_right (Nat.le_refl _), Nat.sub_self, ← c, e]
          rfl
        · obtain ⟨q, x, y⟩ := (c6 s).mpr ⟨u, by omega, b, c⟩
          exact ⟨q, x, by rw [List.getElem?_append_left (List.getElem?_eq_some_iff.mp y).1]; exact y⟩
theorem Col.next {O : Nat → Nat → Bool} {S : Nat → Nat → Nat} {M i : Nat} {l : List Nat} {σ : Nat → Nat} (C : Col O S M l σ i M) : Col O S M l (fun j => if j ≤ i then σ j else l.length) (i + 1) 0 := by
  obtain ⟨c1, c2, c3, c4, c5, c6⟩ := C
  refine ⟨by simpa using c1, fun j hj => ?_, ?_, by rw [Nat.succ_mul]; omega, fun j hj s => ?_, fun s => ?_⟩
  · dsimp only
    by_cases e : j + 1 ≤ i
    · rw [if_pos (by omega), if_pos e]; exact c2 j (by omega)
    · have : j = i := by omega
      rw [this, if_pos (Nat.le_refl _), if_neg (by omega)]
      exact c3
  · dsimp only
    rw [if_neg (by omega)]
    exact Nat.le_refl _
  · dsimp only
    by_cases e : j + 1 ≤ i
    · rw [if_pos (by omega), if_pos e]; exact c5 j (by omega) s
    · have : j = i := by omega
      subst this
      rw [if_pos (Nat.le_refl _), if_neg (by omega), ← c6 s]
      constructor
      · rintro ⟨q, a, -, c⟩; exact ⟨q, a, c⟩
      · rintro ⟨q, a, c⟩; exact ⟨q, a, (List.getElem?_eq_some_iff.mp c).1, c⟩
  · dsimp only
    rw [if_neg (by omega)]
    constructor
    · rintro ⟨q, a, c⟩
      have := (List.getElem?_eq_some_iff.mp c).1
      omega
    · rintro ⟨u, a, -⟩; omega
theorem Col.all {O : Nat → Nat → Bool} {S : Nat → Nat → Nat} {M i v : Nat} {l : List Nat} {σ : Nat → Nat} (C : Col O S M l σ i v) {P : Nat → Prop} (h : ∀ j u, j ≤ i → O j u = true → P (S j u)) : ∀ s ∈ l, P s := by
  intro s hs
  obtain ⟨q, hq⟩ := List.mem_iff_getElem?.mp hs
  by_cases a : σ i ≤ q
  · obtain ⟨u, -, y, z⟩ := (C.2.2.2.2.2 s).mp ⟨q, a, hq⟩
    rw [← z]
    exact h i u (Nat.le_refl _) y
  · have key : ∀ j, j ≤ i → q < σ j → P s := by
      intro j
      induction j with
      | zero => intro _ x; rw [C.1] at x; omega
      | succ j ih =>
        intro hj x
        by_cases b : q < σ j
        · exact ih (by omega) b
        · obtain ⟨u, -, y, z⟩ := (C.2.2.2.2.1 j (by omega) s).mp ⟨q, by omega, x, hq⟩
          rw [← z]
          exact h j u (by omega) y
    exact key i (Nat.le_refl _) (by omega)
