/-! ===== flows: sums ===== -/
def sm (f : Nat → Int) : Nat → Int
  | 0 => 0
  | n + 1 => sm f n + f n
theorem sm_cong {f g : Nat → Int} : ∀ {n : Nat}, (∀ i, i < n → f i = g i) → sm f n = sm g n := by
  intro n
  induction n with
  | zero => intro _; rfl
  | succ n ih =>
    intro h
    show sm f n + f n = sm g n + g n
    rw [ih (fun i hi => h i (by omega)), h n (by omega)]
theorem sm_add {f g : Nat → Int} : ∀ {n : Nat}, sm (fun i => f i + g i) n = sm f n + sm g n := by
  intro n
  induction n with
  | zero => rfl
  | succ n ih =>
    show sm (fun i => f i + g i) n + (f n + g n) = sm f n + f n + (sm g n + g n)
    rw [ih]
    omega
theorem sm_neg {f : Nat → Int} : ∀ {n : Nat}, sm (fun i => - f i) n = - sm f n := by
  intro n
  induction n with
  | zero => rfl
  | succ n ih =>
    show sm (fun i => - f i) n + - f n = - (sm f n + f n)
    rw [ih]
    omega
theorem sm_zero {f : Nat → Int} : ∀ {n : Nat}, (∀ i, i < n → f i = 0) → sm f n = 0 := by
  intro n
  induction n with
  | zero => intro _; rfl
  | succ n ih =>
    intro h
    show sm f n + f n = 0
    rw [ih (fun i hi => h i (by omega)), h n (by omega)]
    rfl
theorem sm_one {f : Nat → Int} {k : Nat} : ∀ {n : Nat}, k < n → (∀ i, i < n → i ≠ k → f i = 0) → sm f n = f k := by
  intro n
  induction n with
  | zero => intro h; omega
  | succ n ih =>
    intro hk h
    show sm f n + f n = f k
    by_cases e : k = n
    · rw [sm_zero (fun i hi => h i (by omega) (by omega)), e, Int.zero_add]
    · rw [ih (by omega) (fun i hi => h i (by omega)), h n (by omega) (fun q => e q.symm), Int.add_zero]
theorem sm_swap {f : Nat → Nat → Int} {m : Nat} : ∀ {n : Nat}, sm (fun i => sm (f i) m) n = sm (fun j => sm (fun i => f i j) n) m := by
  intro n
  induction n with
  | zero => exact (sm_zero (fun i _ => rfl)).symm
  | succ n ih =>
    show sm (fun i => sm (f i) m) n + sm (f n) m = sm (fun j => sm (fun i => f i j) n + f n j) m
    rw [ih, sm_add]
theorem sm_le {f g : Nat → Int} : ∀ {n : Nat}, (∀ i, i < n → f i ≤ g i) → sm f n ≤ sm g n := by
  intro n
  induction n with
  | zero => intro _; exact Int.le_refl _
  | succ n ih =>
    intro h
    have a := ih (fun i hi => h i (by omega))
    have b := h n (by omega)
    show sm f n + f n ≤ sm g n + g n
    omega
theorem sm_tight {f g : Nat → Int} : ∀ {n : Nat}, (∀ i, i < n → f i ≤ g i) → sm g n ≤ sm f n → ∀ i, i < n → f i = g i := by
  intro n
  induction n with
  | zero => intro _ _ i hi; omega
  | succ n ih =>
    intro h e i hi
    have a := sm_le (n := n) (fun i hi => h i (by omega))
    have b := h n (by omega)
    have e' : sm g n + g n ≤ sm f n + f n := e
    by_cases c : i = n
    · rw [c]; omega
    · exact ih (fun i hi => h i (by omega)) (by omega) i (by omega)
theorem sm_ct {p : Nat → Bool} : ∀ {n : Nat}, sm (fun i => if p i then 1 else 0) n = (ct p n : Int) := by
  intro n
  induction n with
  | zero => rfl
  | succ n ih =>
    rw [ct_succ]
    show sm (fun i => if p i then 1 else 0) n + (if p n then 1 else 0) = _
    rw [ih]
    cases p n <;> simp
theorem sm_upd {f : Nat → Int} {k n : Nat} {c : Int} (hk : k < n) : sm (fun v => f v + (if v = k then c else 0)) n = sm f n + c := by
  rw [sm_add, sm_one (f := fun v => if v = k then c else 0) hk (fun i _ hi => if_neg hi), if_pos rfl]
/-- what goes over the rim of a set -/
def crs (W : Nat → Bool) (φ : Nat → Nat → Int) (u v : Nat) : Int := if W u && !W v then φ u v else 0
theorem flow_cut {n : Nat} {W : Nat → Bool} {φ : Nat → Nat → Int} (sk : ∀ u v, u < n → v < n → φ u v = - φ v u) : sm (fun u => if W u then sm (φ u) n else 0) n = sm (fun u => sm (crs W φ u) n) n := by
  have hT : sm (fun u => sm (fun v => if W u && W v then φ u v else 0) n) n = 0 := by
    have e : sm (fun u => sm (fun v => if W u && W v then φ u v else 0) n) n = - sm (fun u => sm (fun v => if W u && W v then φ u v else 0) n) n := by
      rw [← sm_neg]
      refine Eq.trans sm_swap (sm_cong (fun i hi => ?_))
      rw [← sm_neg]
      refine sm_cong (fun j hj => ?_)
      rw [Bool.and_comm (W j) (W i)]
      by_cases c : (W i && W j) = true
      · rw [if_pos c, if_pos c, sk j i hj hi]
      · rw [if_neg c, if_neg c]; rfl
    omega
  have e : sm (fun u => if W u then sm (φ u) n else 0) n = sm (fun u => sm (fun v => if W u && W v then φ u v else 0) n + sm (crs W φ u) n) n := by
    refine sm_cong (fun u hu => ?_)
    rw [← sm_add]
    by_cases c : W u = true
    · rw [if_pos c]
      refine sm_cong (fun v hv => ?_)
      unfold crs
      rw [c]
      cases W v <;> simp
    · rw [if_neg c]
      refine (sm_zero (fun v hv => ?_)).symm
      unfold crs
      simp [c]
  rw [e, sm_add, hT, Int.zero_add]
/-! ===== the net ===== -/
def un (F : Nat → Bool) (u v : Nat) : Bool := decide (u < 20) && decide (v = u + 20) && F u
theorem un_iff {F : Nat → Bool} {u v : Nat} : un F u v = true ↔ u < 20 ∧ v = u + 20 ∧ F u = true := by
  unfold un
  simp [and_assoc]
def toE (told : Nat → Bool) (hb : Nat → Nat → Bool) (N x : Nat) : Bool := anyb (fun t => told t && hb t x) N
def nf (s N : Nat) (F told : Nat → Bool) (hb : Nat → Nat → Bool) (u v : Nat) : Bool := decide (20 ≤ u) && decide (u < 40) && (decide (u = 20 + s) || F (u - 20)) && ((decide (v < 20) && F v && hb v (u - 20)) || (decide (v = 40) && toE told hb N (u - 20)))
theorem nf_iff {s N : Nat} {F told : Nat → Bool} {hb : Nat → Nat → Bool} {u v : Nat} : nf s N F told hb u v = true ↔ 20 ≤ u ∧ u < 40 ∧ (u = 20 + s ∨ F (u - 20) = true) ∧ ((v < 20 ∧ F v = true ∧ hb v (u - 20) = true) ∨ (v = 40 ∧ toE told hb N (u - 20) = true)) := by
  unfold nf
  simp [and_assoc]
section Flow
variable {s N : Nat} {F told : Nat → Bool} {hb : Nat → Nat → Bool}
def Net (s N : Nat) (F : Nat → Bool) (hb : Nat → Nat → Bool) : Prop := s < N ∧ N ≤ 20 ∧ F s = false ∧ (∀ v, F v = true → v < N) ∧ ∀ v k, F v = true → k < 20 → hb v k = true → k < v
def Flw (s N : Nat) (F told : Nat → Bool) (hb : Nat → Nat → Bool) (a : Nat → Nat → Bool) (φ : Nat → Nat → Int) (val : Int) (k : Nat) : Prop :=
  (∀ u v, u < 41 → v < 41 → φ u v = - φ v u) ∧
  (∀ u v, u < 41 → v < 41 → un F u v = true → (φ u v = 0 ∧ a u v = true ∧ a v u = false) ∨ (φ u v = 1 ∧ a u v = false ∧ a v u = true)) ∧
  (∀ u v, u < 41 → v < 41 → nf s N F told hb u v = true → a u v = true ∧ ((φ u v = 0 ∧ a v u = false) ∨ (0 < φ u v ∧ a v u = true))) ∧
  (∀ u v, u < 41 → v < 41 → un F u v = false → un F v u = false → nf s N F told hb u v = false → nf s N F told hb v u = false → φ u v = 0 ∧ a u v = false) ∧
  ∀ u, u < 40 → sm (φ u) 41 = (if u = 20 + s then val else 0) + (if u = k then 1 else 0)
/-- an arc turned -/
def trn (a : Nat → Nat → Bool) (b k : Nat) : Nat → Nat → Bool := fun u v => if u = k ∧ v = b then true else if u = b ∧ v = k ∧ ¬ (20 ≤ b ∧ k ≠ b - 20) then false else a u v
theorem un_nf {u v : Nat} (net : Net s N F hb) (h : un F u v = true) : un F v u = false ∧ nf s N F told hb u v = false ∧ nf s N F told hb v u = false := by
  obtain ⟨h1, h2, h3⟩ := un_iff.mp h
  refine ⟨?_, ?_, ?_⟩
  · cases e : un F v u with
    | false => rfl
    | true => have := un_iff.mp e; omega
  · cases e : nf s N F told hb u v with
    | false => rfl
    | true => have := (nf_iff.mp e).1; omega
  · cases e : nf s N F told hb v u with
    | false => rfl
    | true =>
      obtain ⟨-, -, -, g⟩ := nf_iff.mp e
      rcases g with ⟨g1, g2, g3⟩ | ⟨g1, -⟩
      · have := net.2.2.2.2 u (v - 20) g2 (by omega) g3
        omega
      · omega
theorem nf_un {u v : Nat} (net : Net s N F hb) (h : nf s N F told hb u v = true) : nf s N F told hb v u = false ∧ un F u v = false ∧ un F v u = false := by
  obtain ⟨h1, h2, h3, h4⟩ := nf_iff.mp h
  refine ⟨?_, ?_, ?_⟩
  · cases e : nf s N F told hb v u with
    | false => rfl
    | true =>
      have := nf_iff.mp e
      omega
  · cases e : un F u v with
    | false => rfl
    | true => have := un_iff.mp e; omega
  · cases e : un F v u with
    | false => rfl
    | true =>
      have := (un_nf (s := s) (N := N) (told := told) (hb := hb) net e).2.2
      rw [h] at this
      cases this
theorem Flw.turn {a : Nat → Nat → Bool} {φ : Nat → Nat → Int} {val : Int} {k b : Nat} (net : Net s N F hb) (f : Flw s N F told hb a φ val k) (hk : k < 41) (hb40 : b < 40) (hab : a b k = true) (hbk : b ≠ k) : ∃ φ', Flw s N F told hb (trn a b k) φ' val b := by
  obtain ⟨f1, f2, f3, f4, f5⟩ := f
  have hb41 : b < 41 := by omega
  let φ' : Nat → Nat → Int := fun u v => φ u v + ((if u = b ∧ v = k then 1 else 0) + (if u = k ∧ v = b then -1 else 0))
  have p1 : φ' b k = φ b k + 1 := by
    show φ b k + _ = _
    rw [if_pos ⟨rfl, rfl⟩, if_neg (fun q => hbk q.1)]
    omega
  have p2 : φ' k b = φ k b - 1 := by
    show φ k b + _ = _
    rw [if_neg (fun q => hbk q.1.symm), if_pos ⟨rfl, rfl⟩]
    omega
  have p3 : ∀ u v, ¬ (u = b ∧ v = k) → ¬ (u = k ∧ v = b) → φ' u v = φ u v := fun u v h1 h2 => by
    show φ u v + _ = _
    rw [if_neg h1, if_neg h2]
    omega
  have t1 : trn a b k k b = true := if_pos ⟨rfl, rfl⟩
  have t3 : ∀ u v, ¬ (u = b ∧ v = k) → ¬ (u = k ∧ v = b) → trn a b k u v = a u v := fun u v h1 h2 => by
    unfold trn
    rw [if_neg h2, if_neg (fun q => h1 ⟨q.1, q.2.1⟩)]
  have t2 : ¬ (20 ≤ b ∧ k ≠ b - 20) → trn a b k b k = false := fun h => by
    unfold trn
    rw [if_neg (fun q => hbk q.1), if_pos ⟨rfl, rfl, h⟩]
  have t4 : (20 ≤ b ∧ k ≠ b - 20) → trn a b k b k = true := fun h => by
    unfold trn
    rw [if_neg (fun q => hbk q.1), if_neg (fun q => q.2.2 h), hab]
  have sk := f1 b k hb41 hk
  -- the pair's own kind
  have kinds : un F b k = true ∨ un F k b = true ∨ nf s N F told hb b k = true ∨ nf s N F told hb k b = true := by
    apply Classical.byContradiction
    intro q
    have := (f4 b k hb41 hk (by cases e : un F b k with | false => rfl | true => exact absurd (Or.inl e) q) (by cases e : un F k b with | false => rfl | true => exact absurd (Or.inr (Or.inl e)) q) (by cases e : nf s N F told hb b k with | false => rfl | true => exact absurd (Or.inr (Or.inr (Or.inl e))) q) (by cases e : nf s N F told hb k b with | false => rfl | true => exact absurd (Or.inr (Or.inr (Or.inr e))) q)).2
    rw [hab] at this
    cases this
  -- what the pair is then
  have pair : (un F b k = true → φ' b k = 1 ∧ trn a b k b k = false) ∧ (un F k b = true → φ' k b = 0 ∧ trn a b k b k = false) ∧ (nf s N F told hb b k = true → 0 < φ' b k ∧ trn a b k b k = true) ∧ (nf s N F told hb k b = true → φ' k b = 0 ∧ trn a b k b k = false) := by
    refine ⟨fun h => ?_, fun h => ?_, fun h => ?_, fun h => ?_⟩
    · obtain ⟨g1, g2, g3⟩ := un_iff.mp h
      rcases f2 b k hb41 hk h with ⟨x, -, -⟩ | ⟨-, x, -⟩
      · exact ⟨by omega, t2 (by omega)⟩
      · rw [hab] at x; cases x
    · obtain ⟨g1, g2, g3⟩ := un_iff.mp h
      rcases f2 k b hk hb41 h with ⟨-, -, x⟩ | ⟨x, -, -⟩
      · rw [hab] at x; cases x
      · exact ⟨by omega, t2 (by omega)⟩
    · obtain ⟨g1, g2, g3, g4⟩ := nf_iff.mp h
      have hne : k ≠ b - 20 := by
        rcases g4 with ⟨y1, y2, y3⟩ | ⟨y1, -⟩
        · have := net.2.2.2.2 k (b - 20) y2 (by omega) y3
          omega
        · omega
      refine ⟨?_, t4 ⟨g1, hne⟩⟩
      rcases (f3 b k hb41 hk h).2 with ⟨x, -⟩ | ⟨x, -⟩ <;> omega
    · obtain ⟨g1, g2, g3, g4⟩ := nf_iff.mp h
      have hb20 : b < 20 ∧ F b = true := by
        rcases g4 with ⟨y1, y2, -⟩ | ⟨y1, -⟩
        · exact ⟨y1, y2⟩
        · omega
      refine ⟨?_, t2 (by omega)⟩
      rcases (f3 k b hk hb41 h).2 with ⟨-, x⟩ | ⟨x, -⟩
      · rw [hab] at x; cases x
      · -- no more than one comes into b
        have le1 : φ k b ≤ 1 := by
          apply Classical.byContradiction
          intro q
          have d := f5 b hb40
          rw [if_neg (by omega), if_neg hbk] at d
          have bound : ∀ v, v < 41 → φ b v ≤ (if v = b + 20 then 1 else 0) + (if v = k then -2 else 0) := fun v hv => by
            have skv := f1 b v hb41 hv
            by_cases ev : v = k
            · subst ev
              rw [if_neg (by
                intro e
                have := un_nf (s := s) (N := N) (told := told) (hb := hb) net (un_iff.mpr ⟨hb20.1, e, hb20.2⟩)
                rw [h] at this
                cases this.2.2), if_pos rfl]
              omega
            · rw [if_neg ev]
              by_cases e1 : un F b v = true
              · obtain ⟨-, z, -⟩ := un_iff.mp e1
                rw [if_pos z]
                rcases f2 b v hb41 hv e1 with ⟨y, -⟩ | ⟨y, -⟩ <;> omega
              · have e2 : un F v b = false := by
                  cases e : un F v b with
                  | false => rfl
                  | true => have := un_iff.mp e; omega
                have e3 : nf s N F told hb b v = false := by
                  cases e : nf s N F told hb b v with
                  | false => rfl
                  | true => have := (nf_iff.mp e).1; omega
                have nn : (0 : Int) ≤ (if v = b + 20 then 1 else 0) + 0 := by split <;> omega
                by_cases e4 : nf s N F told hb v b = true
                · rcases (f3 v b hv hb41 e4).2 with ⟨y, -⟩ | ⟨y, -⟩ <;> omega
                · have := (f4 b v hb41 hv (by simpa using e1) e2 e3 (by simpa using e4)).1
                  omega
          have s1 := sm_le bound
          rw [sm_add, sm_one (f := fun v => if v = b + 20 then (1 : Int) else 0) (k := b + 20) (by omega) (fun i _ hi => if_neg hi), sm_one (f := fun v => if v = k then (-2 : Int) else 0) hk (fun i _ hi => if_neg hi), if_pos rfl, if_pos rfl] at s1
          omega
        omega
  refine ⟨φ', ?_, ?_, ?_, ?_, ?_⟩
  · intro u v hu hv
    have := f1 u v hu hv
    show φ u v + _ = - (φ v u + _)
    have e1 : (if u = b ∧ v = k then (1 : Int) else 0) = - (if v = k ∧ u = b then -1 else 0) := by
      by_cases c : u = b ∧ v = k
      · rw [if_pos c, if_pos ⟨c.2, c.1⟩]; rfl
      · rw [if_neg c, if_neg (fun q => c ⟨q.2, q.1⟩)]; rfl
    have e2 : (if u = k ∧ v = b then (-1 : Int) else 0) = - (if v = b ∧ u = k then 1 else 0) := by
      by_cases c : u = k ∧ v = b
      · rw [if_pos c, if_pos ⟨c.2, c.1⟩]
      · rw [if_neg c, if_neg (fun q => c ⟨q.2, q.1⟩)]; rfl
    rw [e1, e2]
    omega
  · intro u v hu hv h
    by_cases c1 : u = b ∧ v = k
    · obtain ⟨rfl, rfl⟩ := c1
      exact Or.inr ⟨(pair.1 h).1, (pair.1 h).2, t1⟩
    · by_cases c2 : u = k ∧ v = b
      · obtain ⟨rfl, rfl⟩ := c2
        exact Or.inl ⟨(pair.2.1 h).1, t1, (pair.2.1 h).2⟩
      · rw [p3 u v c1 c2, t3 u v c1 c2, t3 v u (fun q => c2 ⟨q.2, q.1⟩) (fun q => c1 ⟨q.2, q.1⟩)]
        exact f2 u v hu hv h
  · intro u v hu hv h
    by_cases c1 : u = b ∧ v = k
    · obtain ⟨rfl, rfl⟩ := c1
      exact ⟨(pair.2.2.1 h).2, Or.inr ⟨(pair.2.2.1 h).1, t1⟩⟩
    · by_cases c2 : u = k ∧ v = b
      · obtain ⟨rfl, rfl⟩ := c2
        exact ⟨t1, Or.inl (pair.2.2.2 h)⟩
      · rw [p3 u v c1 c2, t3 u v c1 c2, t3 v u (fun q => c2 ⟨q.2, q.1⟩) (fun q => c1 ⟨q.2, q.1⟩)]
        exact f3 u v hu hv h
  · intro u v hu hv h1 h2 h3 h4
    have c1 : ¬ (u = b ∧ v = k) := by
      rintro ⟨rfl, rfl⟩
      rcases kinds with q | q | q | q
      · rw [q] at h1; cases h1
      · rw [q] at h2; cases h2
      · rw [q] at h3; cases h3
      · rw [q] at h4; cases h4
    have c2 : ¬ (u = k ∧ v = b) := by
      rintro ⟨rfl, rfl⟩
      rcases kinds with q | q | q | q
      · rw [q] at h2; cases h2
      · rw [q] at h1; cases h1
      · rw [q] at h4; cases h4
      · rw [q] at h3; cases h3
    rw [p3 u v c1 c2, t3 u v c1 c2]
    exact f4 u v hu hv h1 h2 h3 h4
  · intro u hu
    have d := f5 u hu
    by_cases e1 : u = b
    · subst e1
      have : sm (φ' u) 41 = sm (φ u) 41 + 1 := by
        rw [← sm_upd (f := φ u) (k := k) (c := 1) hk]
        refine sm_cong (fun v _ => ?_)
        show φ u v + _ = _
        by_cases c : v = k
        · rw [if_pos ⟨rfl, c⟩, if_neg (fun q => hbk q.1), if_pos c]; omega
        · rw [if_neg (fun q => c q.2), if_neg (fun q => hbk q.1), if_neg c]; omega
      rw [this, d, if_neg hbk, if_pos rfl]
      omega
    · by_cases e2 : u = k
      · subst e2
        have : sm (φ' u) 41 = sm (φ u) 41 + -1 := by
          rw [← sm_upd (f := φ u) (k := b) (c := -1) hb41]
          refine sm_cong (fun v _ => ?_)
          show φ u v + _ = _
          by_cases c : v = b
          · rw [if_neg (fun q => e1 q.1), if_pos ⟨rfl, c⟩, if_pos c]; omega
          · rw [if_neg (fun q => e1 q.1), if_neg (fun q => c q.2), if_neg c]; omega
        rw [this, d, if_pos rfl, if_neg e1]
        omega
      · have : sm (φ' u) 41 = sm (φ u) 41 := sm_cong (fun v _ => p3 u v (fun q => e1 q.1) (fun q => e2 q.1))
        rw [this, d, if_neg e1, if_neg e2]
end Flow
