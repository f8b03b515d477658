/-! ===== what is laid does ===== -/
def jn (i : Nat) (x y : Int32) : Int32 := if i = 0 then x + y else if i = 1 then x - y else if i = 2 then x * y else if i = 3 then x / y else if i = 4 then jrem x y else if i = 5 then (if x < y then 1 else 0) else if i = 6 then (if y < x then 1 else 0) else (if x = y then 1 else 0)
def dv0 (i : Nat) (y : Int32) : Prop := (i = 3 ∨ i = 4) ∧ y = 0
/-- W: from a place with a stack it comes to an answer; how the words of code between a and b carry that backwards -/
def Mch (A : Cd) (fc : Rw) (a b : Nat) (W : Nat → List Int32 → Int32 → Prop) : Prop :=
  ∀ p op num, a ≤ p → p < b → A[p]? = some (op, num) → ∀ (st : List Int32) (r : Int32),
    (op = 0 → num < 100000 → st.length < 32 → W (p + 1) (nI num :: st) r → W p st r) ∧
    (op = 1 → num < 8 → st.length < 32 → W (p + 1) (fc num :: st) r → W p st r) ∧
    (op = 2 → ∀ x, st.length < 32 → W (p + 1) ((1 - x) :: st) r → W p (x :: st) r) ∧
    (op = 3 → ∀ x, st.length < 32 → (x = 0 → p < num → num ≤ b → W num (x :: st) r → W p (x :: st) r) ∧ (¬ x = 0 → W (p + 1) st r → W p (x :: st) r)) ∧
    (op = 4 → ∀ x, st.length < 32 → (x = 1 → p < num → num ≤ b → W num (x :: st) r → W p (x :: st) r) ∧ (¬ x = 1 → W (p + 1) st r → W p (x :: st) r)) ∧
    ∀ i, op = 5 + i → i < 8 → ∀ x y, st.length < 31 → (dv0 i y → r = 0 → W p (y :: x :: st) r) ∧ (¬ dv0 i y → W (p + 1) (jn i x y :: st) r → W p (y :: x :: st) r)
theorem Mch.sub {A : Cd} {fc : Rw} {a b a' b' : Nat} {W : Nat → List Int32 → Int32 → Prop} (m : Mch A fc a b W) (ha : a ≤ a') (hb : b' ≤ b) : Mch A fc a' b' W := by
  intro p op num h1 h2 e st r
  obtain ⟨m1, m2, m3, m4, m5, m6⟩ := m p op num (by omega) (by omega) e st r
  exact ⟨m1, m2, m3, fun q x hx => ⟨fun y1 y2 y3 => (m4 q x hx).1 y1 y2 (by omega), (m4 q x hx).2⟩, fun q x hx => ⟨fun y1 y2 y3 => (m5 q x hx).1 y1 y2 (by omega), (m5 q x hx).2⟩, m6⟩
def Seg (A : Cd) (a b d : Nat) (v : Rw → Option Int32) : Prop := ∀ (fc : Rw) (W : Nat → List Int32 → Int32 → Prop), Mch A fc a b W → ∀ (st : List Int32) (r : Int32), st.length + d ≤ 32 → (∀ x, v fc = some x → W b (x :: st) r → W a st r) ∧ (v fc = none → r = 0 → W a st r)
theorem Seg.deep {A : Cd} {a b d d' : Nat} {v : Rw → Option Int32} (s : Seg A a b d v) (h : d ≤ d') : Seg A a b d' v := fun fc W m st r hs => s fc W m st r (by omega)
theorem Seg.same {A A' : Cd} {a b d : Nat} {v : Rw → Option Int32} (s : Seg A a b d v) (h : ∀ p, a ≤ p → p < b → A'[p]? = A[p]?) : Seg A' a b d v := fun fc W m st r hs => s fc W (fun p op num h1 h2 e => m p op num h1 h2 (by rw [h p h1 h2]; exact e)) st r hs
theorem seg_push {A : Cd} {a k : Nat} (e : A[a]? = some (0, k)) (hk : k < 100000) : Seg A a (a + 1) 1 (fun _ => some (nI k)) := by
  intro fc W m st r hs
  refine ⟨fun x hx w => ?_, fun q => by cases q⟩
  rw [← Option.some.inj hx] at w
  exact (m a 0 k (Nat.le_refl _) (by omega) e st r).1 rfl hk (by omega) w
theorem seg_fact {A : Cd} {a k : Nat} (e : A[a]? = some (1, k)) (hk : k < 8) : Seg A a (a + 1) 1 (fun fc => some (fc k)) := by
  intro fc W m st r hs
  refine ⟨fun x hx w => ?_, fun q => by cases q⟩
  rw [← Option.some.inj hx] at w
  exact (m a 1 k (Nat.le_refl _) (by omega) e st r).2.1 rfl hk (by omega) w
noncomputable def vBin (i : Nat) (v1 v2 : Rw → Option Int32) : Rw → Option Int32 := fun fc => (v1 fc).bind (fun x => (v2 fc).bind (fun y => if pb (dv0 i y) then none else some (jn i x y)))
theorem seg_bin {A : Cd} {a b c d i k : Nat} {v1 v2 : Rw → Option Int32} (hab : a ≤ b) (hbc : b ≤ c) (s1 : Seg A a b (d + 1) v1) (s2 : Seg A b c d v2) (e : A[c]? = some (5 + i, k)) (hi : i < 8) (hd : 1 ≤ d) : Seg A a (c + 1) (d + 1) (vBin i v1 v2) := by
  intro fc W m st r hs
  have m1 := m.sub (Nat.le_refl a) (show b ≤ c + 1 by omega)
  have m2 := m.sub hab (show c ≤ c + 1 by omega)
  obtain ⟨t1, t2⟩ := s1 fc W m1 st r (by omega)
  unfold vBin
  cases e1 : v1 fc with
  | none =>
    refine ⟨fun x hx => (by cases hx), fun _ h0 => t2 e1 h0⟩
  | some x =>
    rw [Option.bind_some]
    obtain ⟨u1, u2⟩ := s2 fc W m2 (x :: st) r (by rw [List.length_cons]; omega)
    cases e2 : v2 fc with
    | none => exact ⟨fun z hz => (by cases hz), fun _ h0 => t1 x e1 (u2 e2 h0)⟩
    | some y =>
      rw [Option.bind_some]
      have mm := (m c (5 + i) k (by omega) (by omega) e st r).2.2.2.2.2 i rfl hi x y (by omega)
      by_cases q : dv0 i y
      · rw [pb_t q, if_pos rfl]
        exact ⟨fun z hz => (by cases hz), fun _ h0 => t1 x e1 (u1 y e2 (mm.1 q h0))⟩
      · rw [pb_f q, if_neg (by decide)]
        refine ⟨fun z hz w => ?_, fun hz => (by cases hz)⟩
        rw [← Option.some.inj hz] at w
        exact t1 x e1 (u1 y e2 (mm.2 q w))
def vNot (v : Rw → Option Int32) : Rw → Option Int32 := fun fc => (v fc).bind (fun x => some (1 - x))
theorem seg_not {A : Cd} {a b d k : Nat} {v : Rw → Option Int32} (hab : a ≤ b) (s : Seg A a b d v) (e : A[b]? = some (2, k)) (hd : 1 ≤ d) : Seg A a (b + 1) d (vNot v) := by
  intro fc W m st r hs
  obtain ⟨t1, t2⟩ := s fc W (m.sub (Nat.le_refl a) (show b ≤ b + 1 by omega)) st r hs
  unfold vNot
  cases e1 : v fc with
  | none => exact ⟨fun x hx => (by cases hx), fun _ h0 => t2 e1 h0⟩
  | some x =>
    refine ⟨fun z hz w => ?_, fun hz => (by cases hz)⟩
    have : 1 - x = z := Option.some.inj hz
    rw [← this] at w
    exact t1 x e1 ((m b 2 k hab (by omega) e st r).2.2.1 rfl x (by omega) w)
def vAnd (v1 v2 : Rw → Option Int32) : Rw → Option Int32 := fun fc => (v1 fc).bind (fun x => if x = 0 then some x else v2 fc)
def vOr (v1 v2 : Rw → Option Int32) : Rw → Option Int32 := fun fc => (v1 fc).bind (fun x => if x = 1 then some x else v2 fc)
theorem seg_and {A : Cd} {a b c d : Nat} {v1 v2 : Rw → Option Int32} (hab : a ≤ b) (hbc : b < c) (s1 : Seg A a b d v1) (e : A[b]? = some (3, c)) (s2 : Seg A (b + 1) c d v2) (hd : 1 ≤ d) : Seg A a c d (vAnd v1 v2) := by
  intro fc W m st r hs
  obtain ⟨t1, t2⟩ := s1 fc W (m.sub (Nat.le_refl a) (show b ≤ c by omega)) st r hs
  obtain ⟨u1, u2⟩ := s2 fc W (m.sub (show a ≤ b + 1 by omega) (Nat.le_refl c)) st r hs
  unfold vAnd
  cases e1 : v1 fc with
  | none => exact ⟨fun x hx => (by cases hx), fun _ h0 => t2 e1 h0⟩
  | some x =>
    rw [Option.bind_some]
    have mm := (m b 3 c hab hbc e st r).2.2.2.1 rfl x (by omega)
    by_cases q : x = 0
    · rw [if_pos q]
      refine ⟨fun z hz w => ?_, fun hz => (by cases hz)⟩
      rw [← Option.some.inj hz] at w
      exact t1 x e1 (mm.1 q hbc (Nat.le_refl _) w)
    · rw [if_neg q]
      exact ⟨fun z hz w => t1 x e1 (mm.2 q (u1 z hz w)), fun hz h0 => t1 x e1 (mm.2 q (u2 hz h0))⟩
theorem seg_or {A : Cd} {a b c d : Nat} {v1 v2 : Rw → Option Int32} (hab : a ≤ b) (hbc : b < c) (s1 : Seg A a b d v1) (e : A[b]? = some (4, c)) (s2 : Seg A (b + 1) c d v2) (hd : 1 ≤ d) : Seg A a c d (vOr v1 v2) := by
  intro fc W m st r hs
  obtain ⟨t1, t2⟩ := s1 fc W (m.sub (Nat.le_refl a) (show b ≤ c by omega)) st r hs
  obtain ⟨u1, u2⟩ := s2 fc W (m.sub (show a ≤ b + 1 by omega) (Nat.le_refl c)) st r hs
  unfold vOr
  cases e1 : v1 fc with
  | none => exact ⟨fun x hx => (by cases hx), fun _ h0 => t2 e1 h0⟩
  | some x =>
    rw [Option.bind_some]
    have mm := (m b 4 c hab hbc e st r).2.2.2.2.1 rfl x (by omega)
    by_cases q : x = 1
    · rw [if_pos q]
      refine ⟨fun z hz w => ?_, fun hz => (by cases hz)⟩
      rw [← Option.some.inj hz] at w
      exact t1 x e1 (mm.1 q hbc (Nat.le_refl _) w)
    · rw [if_neg q]
      exact ⟨fun z hz w => t1 x e1 (mm.2 q (u1 z hz w)), fun hz h0 => t1 x e1 (mm.2 q (u2 hz h0))⟩
/-- a piece of code that lays one number down (bl: 0 or 1), by the facts alone -/
def Sgm (A : Cd) (a b d : Nat) (bl : Bool) : Prop := a < b ∧ b ≤ A.length ∧ 1 ≤ d ∧ ∃ v : Rw → Option Int32, Seg A a b d v ∧ (∀ f g, eqOn 8 f g → v f = v g) ∧ ((∀ p, a ≤ p → p < b → A[p]? ≠ some (1, 2)) → ∀ f x, v (upd f 2 x) = v f) ∧ (bl = true → ∀ f x, v f = some x → x = 0 ∨ x = 1)
theorem Sgm.same {A A' : Cd} {a b d : Nat} {bl : Bool} (s : Sgm A a b d bl) (hl : b ≤ A'.length) (h : ∀ p, a ≤ p → p < b → A'[p]? = A[p]?) : Sgm A' a b d bl := by
  obtain ⟨h1, h2, h3, v, s1, s2, s3, s4⟩ := s
  exact ⟨h1, hl, h3, v, s1.same h, s2, fun q => s3 (fun p p1 p2 => by rw [← h p p1 p2]; exact q p p1 p2), s4⟩
theorem Sgm.deep {A : Cd} {a b d d' : Nat} {bl : Bool} (s : Sgm A a b d bl) (h : d ≤ d') : Sgm A a b d' bl := by
  obtain ⟨h1, h2, h3, v, s1, s2⟩ := s
  exact ⟨h1, h2, by omega, v, s1.deep h, s2⟩
theorem Sgm.int {A : Cd} {a b d : Nat} {bl : Bool} (s : Sgm A a b d bl) : Sgm A a b d false := by
  obtain ⟨h1, h2, h3, v, s1, s2, s3, -⟩ := s
  exact ⟨h1, h2, h3, v, s1, s2, s3, fun q => (by cases q)⟩
theorem sgm_push {A : Cd} {k : Nat} (hk : k < 100000) : Sgm (A ++ [(0, k)]) A.length (A ++ [(0, k)]).length 1 false := by
  rw [len1]
  have e : (A ++ [(0, k)])[A.length]? = some (0, k) := by rw [List.getElem?_append_right (Nat.le_refl _), Nat.sub_self]; rfl
  exact ⟨by omega, by rw [len1]; exact Nat.le_refl _, by omega, _, seg_push e hk, fun _ _ _ => rfl, fun _ _ _ => rfl, fun q => (by cases q)⟩
theorem sgm_fact {A : Cd} {k : Nat} (hk : k < 8) : Sgm (A ++ [(1, k)]) A.length (A ++ [(1, k)]).length 1 false := by
  rw [len1]
  have e : (A ++ [(1, k)])[A.length]? = some (1, k) := by rw [List.getElem?_append_right (Nat.le_refl _), Nat.sub_self]; rfl
  refine ⟨by omega, by rw [len1]; exact Nat.le_refl _, by omega, _, seg_fact e hk, fun f g q => (by rw [q k hk]), fun q f x => ?_, fun q => (by cases q)⟩
  have : k ≠ 2 := fun z => q A.length (Nat.le_refl _) (by omega) (by rw [e, z])
  rw [upd_ne _ _ this]
theorem vBin_cong {i : Nat} {v1 v2 w1 w2 : Rw → Option Int32} {f g : Rw} (h1 : v1 f = w1 g) (h2 : v2 f = w2 g) : vBin i v1 v2 f = vBin i w1 w2 g := by
  unfold vBin
  rw [h1, h2]
theorem sgm_bin {A : Cd} {a b c d i k : Nat} (s1 : Sgm A a b (d + 1) false) (s2 : Sgm A b c d false) (e : A[c]? = some (5 + i, k)) (hi : i < 8) : Sgm A a (c + 1) (d + 1) (decide (5 ≤ i)) := by
  obtain ⟨h1, h2, h3, v, p1, p2, p3, -⟩ := s1
  obtain ⟨g1, g2, g3, w, q1, q2, q3, -⟩ := s2
  have hl := (List.getElem?_eq_some_iff.mp e).1
  refine ⟨by omega, by omega, by omega, vBin i v w, seg_bin (by omega) (by omega) p1 q1 e hi g3, fun f g z => vBin_cong (p2 f g z) (q2 f g z), fun z f x => vBin_cong (p3 (fun p y1 y2 => z p y1 (by omega)) f x) (q3 (fun p y1 y2 => z p (by omega) (by omega)) f x), fun z f x hx => ?_⟩
  rw [decide_eq_true_eq] at z
  unfold vBin at hx
  cases e1 : v f with
  | none => rw [e1] at hx; cases hx
  | some x1 =>
    cases e2 : w f with
    | none => rw [e1, e2] at hx; cases hx
    | some y1 =>
      have nd : ¬ dv0 i y1 := fun u => by have := u.1; omega
      rw [e1, e2, Option.bind_some, Option.bind_some, pb_f nd, if_neg (by decide)] at hx
      rw [← Option.some.inj hx]
      unfold jn
      rw [if_neg (by omega), if_neg (by omega), if_neg (by omega), if_neg (by omega), if_neg (by omega)]
      split
      · split
        · exact Or.inr rfl
        · exact Or.inl rfl
      · split
        · split
          · exact Or.inr rfl
          · exact Or.inl rfl
        · split
          · exact Or.inr rfl
          · exact Or.inl rfl
theorem sgm_not {A : Cd} {a b d k : Nat} (s : Sgm A a b d true) (e : A[b]? = some (2, k)) : Sgm A a (b + 1) d true := by
  obtain ⟨h1, h2, h3, v, p1, p2, p3, p4⟩ := s
  have hl := (List.getElem?_eq_some_iff.mp e).1
  refine ⟨by omega, by omega, h3, vNot v, seg_not (by omega) p1 e h3, fun f g z => (by unfold vNot; rw [p2 f g z]), fun z f x => (by unfold vNot; rw [p3 (fun p y1 y2 => z p y1 (by omega)) f x]), fun _ f x hx => ?_⟩
  unfold vNot at hx
  cases e1 : v f with
  | none => rw [e1] at hx; cases hx
  | some y =>
    rw [e1] at hx
    rw [← Option.some.inj hx]
    rcases p4 rfl f y e1 with q | q
    · rw [q]; exact Or.inr rfl
    · rw [q]; exact Or.inl rfl
theorem sgm_and {A : Cd} {a b c d : Nat} (s1 : Sgm A a b d true) (e : A[b]? = some (3, c)) (s2 : Sgm A (b + 1) c d true) : Sgm A a c d true := by
  obtain ⟨h1, h2, h3, v, p1, p2, p3, p4⟩ := s1
  obtain ⟨g1, g2, g3, w, q1, q2, q3, q4⟩ := s2
  refine ⟨by omega, by omega, h3, vAnd v w, seg_and (by omega) (by omega) p1 e q1 h3, fun f g z => (by unfold vAnd; rw [p2 f g z, q2 f g z]), fun z f x => (by unfold vAnd; rw [p3 (fun p y1 y2 => z p y1 (by omega)) f x, q3 (fun p y1 y2 => z p (by omega) (by omega)) f x]), fun _ f x hx => ?_⟩
  unfold vAnd at hx
  cases e1 : v f with
  | none => rw [e1] at hx; cases hx
  | some y =>
    rw [e1, Option.bind_some] at hx
    by_cases y0 : y = 0
    · rw [if_pos y0] at hx
      exact Or.inl ((Option.some.inj hx).symm.trans y0)
    · rw [if_neg y0] at hx
      exact q4 rfl f x hx
theorem sgm_or {A : Cd} {a b c d : Nat} (s1 : Sgm A a b d true) (e : A[b]? = some (4, c)) (s2 : Sgm A (b + 1) c d true) : Sgm A a c d true := by
  obtain ⟨h1, h2, h3, v, p1, p2, p3, p4⟩ := s1
  obtain ⟨g1, g2, g3, w, q1, q2, q3, q4⟩ := s2
  refine ⟨by omega, by omega, h3, vOr v w, seg_or (by omega) (by omega) p1 e q1 h3, fun f g z => (by unfold vOr; rw [p2 f g z, q2 f g z]), fun z f x => (by unfold vOr; rw [p3 (fun p y1 y2 => z p y1 (by omega)) f x, q3 (fun p y1 y2 => z p (by omega) (by omega)) f x]), fun _ f x hx => ?_⟩
  unfold vOr at hx
  cases e1 : v f with
  | none => rw [e1] at hx; cases hx
  | some y =>
    rw [e1, Option.bind_some] at hx
    by_cases y0 : y = 1
    · rw [if_pos y0] at hx
      exact Or.inr ((Option.some.inj hx).symm.trans y0)
    · rw [if_neg y0] at hx
      exact q4 rfl f x hx
