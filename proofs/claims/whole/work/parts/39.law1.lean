/-! ===== the law at work ===== -/
theorem fst_here {p : Nat → Bool} : ∀ {n k q : Nat}, k ≤ q → q < k + n → (∀ i, k ≤ i → i < q → p i = false) → p q = true → fst p k n = some q := by
  intro n
  induction n with
  | zero => intro k q h1 h2; omega
  | succ n ih =>
    intro k q h1 h2 h3 h4
    unfold fst
    by_cases e : k = q
    · rw [e, if_pos h4]
    · rw [if_neg (by rw [h3 k (Nat.le_refl _) (by omega)]; decide)]
      exact ih (by omega) (by omega) (fun i a b => h3 i (by omega) b) h4
theorem fst_nil {p : Nat → Bool} : ∀ {n k : Nat}, (∀ i, k ≤ i → i < k + n → p i = false) → fst p k n = none := by
  intro n
  induction n with
  | zero => intro k _; rfl
  | succ n ih =>
    intro k h
    unfold fst
    rw [if_neg (by rw [h k (Nat.le_refl _) (by omega)]; decide)]
    exact ih (fun i a b => h i (by omega) (by omega))
/-- the law's clauses as functions of the facts -/
def Lx (h : AH) (n : Nat) (L : Nat → Int32) (C V : Nat → Rw → Int32) : Prop := n ≤ 14 ∧ h.1 42 0 = nI n ∧ h.1 75 28 = nI n ∧ (h.1 42 1 = 0 ∨ h.1 42 1 = 1) ∧ ∀ q, q < n → h.1 44 q = L q ∧ h.1 98 q = L q ∧ (∀ f, C q f = 0 ∨ C q f = 1) ∧ (∀ f g, eqOn 8 f g → C q f = C q g ∧ V q f = V q g) ∧ (L q = 114 → h.1 42 1 = 0 → ∀ f x, C q (upd f 2 x) = C q f) ∧
    EvX (h.1 43) (h.1 46 q) (h.1 45 (q + 1)) (C q) ∧ EvM (h.1 97) (h.1 100 q) (h.1 101 q) (C q) ∧ (¬ L q = 114 → EvX (h.1 43) (h.1 45 q) (h.1 46 q) (V q) ∧ EvM (h.1 97) (h.1 99 q) (h.1 100 q) (V q))
theorem Lz.x {n : Nat} {h : AH} (Z : Lz n h) : ∃ L C V, Lx h n L C V := by
  obtain ⟨h1, h2, h3, h4, h5, -⟩ := Z
  have : ∀ q : Nat, ∃ c v : Rw → Int32, q < n → h.1 44 q = h.1 98 q ∧ (∀ f, c f = 0 ∨ c f = 1) ∧ (∀ f g, eqOn 8 f g → c f = c g ∧ v f = v g) ∧ (h.1 44 q = 114 → h.1 42 1 = 0 → ∀ f x, c (upd f 2 x) = c f) ∧
      EvX (h.1 43) (h.1 46 q) (h.1 45 (q + 1)) c ∧ EvM (h.1 97) (h.1 100 q) (h.1 101 q) c ∧ (¬ h.1 44 q = 114 → EvX (h.1 43) (h.1 45 q) (h.1 46 q) v ∧ EvM (h.1 97) (h.1 99 q) (h.1 100 q) v) := fun q => by
    by_cases hq : q < n
    · obtain ⟨c, v, a⟩ := h5 q hq
      exact ⟨c, v, fun _ => a⟩
    · exact ⟨fun _ => 0, fun _ => 0, fun a => absurd a hq⟩
  refine ⟨h.1 44, fun q => (this q).choose, fun q => (this q).choose_spec.choose, h1, h2, h3, h4, fun q hq => ?_⟩
  obtain ⟨a1, a2, a3, a4, a5, a6, a7⟩ := (this q).choose_spec.choose_spec hq
  exact ⟨rfl, a1.symm, a2, a3, a4, a5, a6, a7⟩
theorem Lx.core {n : Nat} {h g : AH} {L : Nat → Int32} {C V : Nat → Rw → Int32} (c : Core h g) (X : Lx h n L C V) : Lx g n L C V := by
  unfold Lx
  rw [c.P 42 0 (by decide), c.P 75 28 (by decide), c.P 42 1 (by decide), c.C 44 (by decide), c.C 98 (by decide), c.C 43 (by decide), c.C 46 (by decide), c.C 45 (by decide), c.C 97 (by decide), c.C 100 (by decide), c.C 101 (by decide), c.C 99 (by decide)]
  exact X
/-- the class's law changes its own cells alone -/
def FX (g g' : AH) : Prop := (∀ a, a ≠ 42 → a ≠ 47 → a ≠ 48 → g'.1 a = g.1 a) ∧ ∀ j, j ≠ 3 → j ≠ 4 → g'.1 42 j = g.1 42 j
def FX0 (g g' : AH) : Prop := FX g g' ∧ g'.1 47 = g.1 47
theorem FX.rf {g : AH} : FX g g := ⟨fun _ _ _ _ => rfl, fun _ _ _ => rfl⟩
theorem FX.tr {a b c : AH} (x : FX a b) (y : FX b c) : FX a c := ⟨fun i h1 h2 h3 => (y.1 i h1 h2 h3).trans (x.1 i h1 h2 h3), fun j h1 h2 => (y.2 j h1 h2).trans (x.2 j h1 h2)⟩
theorem FX0.rf {g : AH} : FX0 g g := ⟨FX.rf, rfl⟩
theorem FX0.tr {a b c : AH} (x : FX0 a b) (y : FX0 b c) : FX0 a c := ⟨x.1.tr y.1, y.2.trans x.2⟩
theorem FX.core {g g' : AH} (x : FX g g') : Core g g' := by
  refine ⟨fun c hc => x.1 c (fun e => ?_) (fun e => ?_) (fun e => ?_), fun q hq => ?_⟩
  · subst e; exact absurd hc (by decide)
  · subst e; exact absurd hc (by decide)
  · subst e; exact absurd hc (by decide)
  · simp only [coreS, List.mem_cons, List.not_mem_nil, or_false] at hq
    rcases hq with rfl | rfl | rfl | rfl | rfl | rfl | rfl | rfl | rfl | rfl | rfl | rfl | rfl | rfl
    · exact congrFun (x.1 0 (by decide) (by decide) (by decide)) 3
    · exact congrFun (x.1 1 (by decide) (by decide) (by decide)) 1
    · exact x.2 0 (by decide) (by decide)
    · exact x.2 1 (by decide) (by decide)
    all_goals first | exact congrFun (x.1 75 (by decide) (by decide) (by decide)) _ | exact congrFun (x.1 38 (by decide) (by decide) (by decide)) _
theorem FX0.run {g : AH} (u v : Int32) (r : Rw) : FX0 g (sR (sI (sI g 42 3 u) 42 4 v) 48 r) := by
  refine ⟨⟨fun a h1 h2 h3 => ?_, fun j h1 h2 => ?_⟩, ?_⟩
  · rw [sR_ne _ _ h3, sI_ne _ _ _ h1, sI_ne _ _ _ h1]
  · rw [sR_ne _ _ (by decide), sI_at, upd_ne _ _ h2, sI_at, upd_ne _ _ h1]
  · rfl
/-- the model's -/
def FM (g g' : AH) : Prop := ∀ a, a ≠ 90 → a ≠ 102 → a ≠ 103 → g'.1 a = g.1 a
def FM0 (g g' : AH) : Prop := FM g g' ∧ g'.1 103 = g.1 103
theorem FM.rf {g : AH} : FM g g := fun _ _ _ _ => rfl
theorem FM.tr {a b c : AH} (x : FM a b) (y : FM b c) : FM a c := fun i h1 h2 h3 => (y i h1 h2 h3).trans (x i h1 h2 h3)
theorem FM0.rf {g : AH} : FM0 g g := ⟨FM.rf, rfl⟩
theorem FM0.tr {a b c : AH} (x : FM0 a b) (y : FM0 b c) : FM0 a c := ⟨x.1.tr y.1, y.2.trans x.2⟩
theorem FM.core {g g' : AH} (x : FM g g') : Core g g' := by
  refine ⟨fun c hc => x c (fun e => ?_) (fun e => ?_) (fun e => ?_), fun q hq => ?_⟩
  · subst e; exact absurd hc (by decide)
  · subst e; exact absurd hc (by decide)
  · subst e; exact absurd hc (by decide)
  · refine congrFun (x q.1 (fun e => ?_) (fun e => ?_) (fun e => ?_)) _
    all_goals
      simp only [coreS, List.mem_cons, List.not_mem_nil, or_false] at hq
      rcases hq with rfl | rfl | rfl | rfl | rfl | rfl | rfl | rfl | rfl | rfl | rfl | rfl | rfl | rfl <;> exact absurd e (by decide)
theorem FM0.run {g : AH} (r : Rw) : FM0 g (sR g 102 r) := ⟨fun a h1 h2 h3 => sR_ne _ _ h2, rfl⟩
/-- the facts -/
def ffc (h : AH) (N M i : Nat) (cl he : Int32) : Rw := fun j => if j = 0 then nI i else if j = 1 then h.1 8 i else if j = 2 then cl else if j = 3 then h.1 11 i else if j = 4 then h.1 12 i else if j = 5 then nI N else if j = 6 then nI M else he
def rdQ (L : Nat → Int32) (C : Nat → Rw → Int32) (l : Int32) (f : Rw) (q : Nat) : Bool := decide (L q = l) && decide (C q f = 1)
def rdb (n : Nat) (L : Nat → Int32) (C : Nat → Rw → Int32) (f : Rw) : Bool := (fst (rdQ L C 114 f) 0 n).isSome
def clp (v m : Int32) : Int32 := if v < 0 then 0 else if m < v then m else v
def ama (n : Nat) (L : Nat → Int32) (C V : Nat → Rw → Int32) (l m : Int32) (f : Rw) : Int32 := (fst (rdQ L C l f) 0 n).elim 0 (fun q => clp (V q f) m)
theorem condX {n q : Nat} {h g : AH} {L : Nat → Int32} {C V : Nat → Rw → Int32} {f : Rw} (X : Lx h n L C V) (hq : q < n) (c : Core h g) (ef : eqOn 8 (g.1 47) f) : ∃ g', fX4_conditionHolds (nI q) g = some (if C q f = 1 then 1 else 0, g') ∧ FX0 g g' := by
  obtain ⟨n14, -, -, -, hX⟩ := X.core c
  obtain ⟨-, -, c01, cg, -, ev, -⟩ := hX q hq
  unfold fX4_conditionHolds
  obtain ⟨u, v, r, e⟩ := ev g (fun _ _ => rfl)
  rw [nI_1, at_in (show q < aln 46 by show _ < 14; omega), at_in (show q + 1 < aln 45 by show _ < 15; omega), e, ob]
  dsimp only
  rw [(cg _ _ ef).1]
  refine ⟨_, ?_, FX0.run u v r⟩
  rcases c01 f with z | z
  · rw [z, if_pos rfl, if_neg (by decide)]
  · rw [z, if_neg (by decide), if_pos rfl]
theorem isRead_eq {n : Nat} {h g : AH} {L : Nat → Int32} {C V : Nat → Rw → Int32} {f : Rw} (X : Lx h n L C V) (c : Core h g) (ef : eqOn 8 (g.1 47) f) : ∃ g', fX4_isRead g = some (if rdb n L C f then 1 else 0, g') ∧ FX0 g g' := by
  have n14 := X.1
  unfold fX4_isRead rdb
  rcases for_or (F := fun m xx g => fX4_isRead_l2 m xx g) (fun g => some ((0 : Int32), g)) (fun g => some ((1 : Int32), g)) n (by omega) (fun q g' => FX0 g g' ∧ ∀ i, i < q → rdQ L C 114 f i = false) (fun g' => FX0 g g' ∧ ∃ q, fst (rdQ L C 114 f) 0 n = some q) (fun m q g' hq hI => by
      obtain ⟨fx, hb⟩ := hI
      have cg := c.tr fx.1.core
      obtain ⟨-, e0, -, -, hX⟩ := X.core cg
      obtain ⟨g2, e2, f2⟩ := condX X hq cg (by rw [fx.2]; exact ef)
      show (∃ s', fX4_isRead_l2b (fX4_isRead_l2 m) (nI q) g' = _ ∧ _) ∨ (∃ s', fX4_isRead_l2b (fX4_isRead_l2 m) (nI q) g' = _ ∧ _)
      unfold fX4_isRead_l2b
      rw [e0, if_pos (nI_lt hq (by omega)), at_in (show q < aln 44 by show _ < 14; omega), (hX q hq).1, e2, ob, nI_1]
      have grow : rdQ L C 114 f q = false → ∀ i, i < q + 1 → rdQ L C 114 f i = false := fun z i hi => by
        by_cases e : i = q
        · rw [e]; exact z
        · exact hb i (by omega)
      by_cases l : L q = 114
      · rw [if_pos l]
        dsimp only
        by_cases z : C q f = 1
        · right
          rw [if_pos z, if_neg (by decide)]
          exact ⟨g2, rfl, fx.tr f2, q, fst_here (Nat.zero_le _) (by omega) (fun i _ hi => hb i hi) (by unfold rdQ; simp [l, z])⟩
        · left
          rw [if_neg z, if_pos rfl]
          exact ⟨g2, rfl, fx.tr f2, grow (by unfold rdQ; simp [z])⟩
      · left
        rw [if_neg l]
        exact ⟨g', rfl, fx, grow (by unfold rdQ; simp [l])⟩) (fun m g' hI => by
      show fX4_isRead_l2b (fX4_isRead_l2 m) (nI n) g' = _
      unfold fX4_isRead_l2b
      rw [(X.core (c.tr hI.1.1.core)).2.1, if_neg (nI_nlt (Nat.le_refl _) (by omega))]) fuel0 0 g (by omega) (by have := fuel_big; omega) ⟨FX0.rf, fun i hi => absurd hi (Nat.not_lt_zero _)⟩ with ⟨g', e, fx, hb⟩ | ⟨g', e, fx, q, hq⟩
  · refine ⟨g', e.trans ?_, fx⟩
    rw [fst_nil (fun i _ hi => hb i (by omega))]
    rfl
  · refine ⟨g', e.trans ?_, fx⟩
    rw [hq]
    rfl
theorem within_eq {v m : Int32} {g : AH} (hm : ¬ m < 0) : fX11_within v 0 m g = clp v m := by
  unfold fX11_within clp jmax jmin
  rw [Int32.lt_iff_toInt_lt] at hm
  simp only [Int32.lt_iff_toInt_lt]
  have z : (0 : Int32).toInt = 0 := rfl
  rw [z] at hm ⊢
  split <;> split <;> split <;> first | rfl | omega | (split <;> first | rfl | omega | (apply Int32.toInt_inj.mp; omega)) | (apply Int32.toInt_inj.mp; omega)
theorem amount_eq {n : Nat} {h g : AH} {L : Nat → Int32} {C V : Nat → Rw → Int32} {f : Rw} {l m : Int32} (X : Lx h n L C V) (c : Core h g) (ef : eqOn 8 (g.1 47) f) (hl : l ≠ 114) (hm : ¬ m < 0) : ∃ g', fX4_amount l m g = some (ama n L C V l m f, g') ∧ FX0 g g' := by
  have n14 := X.1
  unfold fX4_amount ama
  generalize hK : (fun (y6 : Int32) (g7 : AH) => (fX4_run (fX11_at 45 y6 g7) (fX11_at 46 y6 g7) g7).bind (fun b8 => some (fX11_within b8.1 (0 : Int32) m b8.2, b8.2))) = K
  rcases for_or (F := fun k xx (s : Nat × AH) => fX4_amount_l2 K l m k xx s.2) (fun s => some ((0 : Int32), s.2)) (fun s => K (nI s.1) s.2) n (by omega) (fun q s => FX0 g s.2 ∧ ∀ i, i < q → rdQ L C l f i = false) (fun s => FX0 g s.2 ∧ L s.1 = l ∧ fst (rdQ L C l f) 0 n = some s.1) (fun k q s hq hI => by
      obtain ⟨q0, g'⟩ := s
      obtain ⟨fx, hb⟩ := hI
      dsimp only at fx
      have cg := c.tr fx.1.core
      obtain ⟨-, e0, -, -, hX⟩ := X.core cg
      obtain ⟨g2, e2, f2⟩ := condX X hq cg (by rw [fx.2]; exact ef)
      show (∃ s', fX4_amount_l2b (fX4_amount_l2 K l m k) K l m (nI q) g' = _ ∧ _) ∨ (∃ s', fX4_amount_l2b (fX4_amount_l2 K l m k) K l m (nI q) g' = _ ∧ _)
      unfold fX4_amount_l2b
      rw [e0, if_pos (nI_lt hq (by omega)), at_in (show q < aln 44 by show _ < 14; omega), (hX q hq).1, e2, ob, nI_1]
      have grow : rdQ L C l f q = false → ∀ i, i < q + 1 → rdQ L C l f i = false := fun z i hi => by
        by_cases e : i = q
        · rw [e]; exact z
        · exact hb i (by omega)
      by_cases hlq : L q = l
      · rw [if_pos hlq]
        dsimp only
        by_cases z : C q f = 1
        · right
          rw [if_pos z, if_neg (by decide)]
          exact ⟨(q, g2), rfl, fx.tr f2, hlq, fst_here (Nat.zero_le _) (by omega) (fun i _ hi => hb i hi) (by unfold rdQ; simp [hlq, z])⟩
        · left
          rw [if_neg z, if_pos rfl]
          exact ⟨(q0, g2), rfl, fx.tr f2, grow (by unfold rdQ; simp [z])⟩
      · left
        rw [if_neg hlq]
        exact ⟨(q0, g'), rfl, fx, grow (by unfold rdQ; simp [hlq])⟩) (fun k s hI => by
      show fX4_amount_l2b (fX4_amount_l2 K l m k) K l m (nI n) s.2 = _
      unfold fX4_amount_l2b
      rw [(X.core (c.tr hI.1.1.core)).2.1, if_neg (nI_nlt (Nat.le_refl _) (by omega))]) fuel0 0 (0, g) (by omega) (by have := fuel_big; omega) ⟨FX0.rf, fun i hi => absurd hi (Nat.not_lt_zero _)⟩ with ⟨s, e, fx, hb⟩ | ⟨s, e, fx, hl2, hq⟩
  · refine ⟨s.2, Eq.trans e ?_, fx⟩
    rw [fst_nil (fun i _ hi => hb i (by omega))]
    rfl
  · obtain ⟨q, g'⟩ := s
    dsimp only at fx hl2 hq e
    have hqn := (fst_some hq).2.1
    have cg := c.tr fx.1.core
    obtain ⟨-, -, -, -, hX⟩ := X.core cg
    obtain ⟨-, -, -, cc, -, -, -, hV⟩ := hX q (by omega)
    obtain ⟨u, v, r, e2⟩ := (hV (by rw [hl2]; exact hl)).1 g' (fun _ _ => rfl)
    refine ⟨_, e.trans ?_, fx.tr (FX0.run u v r)⟩
    rw [← hK]
    dsimp only
    rw [at_in (show q < aln 45 by show _ < 15; omega), at_in (show q < aln 46 by show _ < 14; omega), e2, ob, within_eq hm, hq]
    dsimp only [Option.elim]
    rw [(cc _ _ (show eqOn 8 (g'.1 47) f by rw [fx.2]; exact ef)).2]
theorem lookAt_eq {N M x i : Nat} {h g : AH} {cl he : Int32} (H : ScN N M x h) (c : Core h g) (hi : i < N) : ∃ g', fX4_lookAt (nI i) cl he g = g' ∧ FX g g' ∧ eqOn 8 (g'.1 47) (ffc h N M i cl he) := by
  have hN := H.N
  have Hg := H.core c
  have i20 : i < 20 := by omega
  refine ⟨_, rfl, ?_, ?_⟩
  · unfold fX4_lookAt
    dsimp only [letT]
    have pp : ∀ (k : Int32) (v : Int32) (g : AH), FX g (fX11_put 47 k v g) := fun k v g => by
      unfold fX11_put
      split
      · exact FX.rf
      · split
        · exact ⟨fun a h1 h2 h3 => sI_ne _ _ _ h2, fun j h1 h2 => rfl⟩
        · exact FX.rf
    exact ((((((pp _ _ _).tr (pp _ _ _)).tr (pp _ _ _)).tr (pp _ _ _)).tr (pp _ _ _)).tr (pp _ _ _)).tr (pp _ _ _) |>.tr (pp _ _ _)
  · unfold fX4_lookAt
    dsimp only [letT]
    have p0 : ∀ v h, fX11_put 47 (0 : Int32) v h = sI h 47 0 v := fun v h => put_in (i := 0) (by decide)
    have p1 : ∀ v h, fX11_put 47 (1 : Int32) v h = sI h 47 1 v := fun v h => put_in (i := 1) (by decide)
    have p2 : ∀ v h, fX11_put 47 (2 : Int32) v h = sI h 47 2 v := fun v h => put_in (i := 2) (by decide)
    have p3 : ∀ v h, fX11_put 47 (3 : Int32) v h = sI h 47 3 v := fun v h => put_in (i := 3) (by decide)
    have p4 : ∀ v h, fX11_put 47 (4 : Int32) v h = sI h 47 4 v := fun v h => put_in (i := 4) (by decide)
    have p5 : ∀ v h, fX11_put 47 (5 : Int32) v h = sI h 47 5 v := fun v h => put_in (i := 5) (by decide)
    have p6 : ∀ v h, fX11_put 47 (6 : Int32) v h = sI h 47 6 v := fun v h => put_in (i := 6) (by decide)
    have p7 : ∀ v h, fX11_put 47 (7 : Int32) v h = sI h 47 7 v := fun v h => put_in (i := 7) (by decide)
    rw [p0, p1, p2, p3, p4, p5, p6, p7, at_in (show i < aln 8 from i20), at_in (show i < aln 11 from i20), at_in (show i < aln 12 from i20)]
    intro j hj
    have : j = 0 ∨ j = 1 ∨ j = 2 ∨ j = 3 ∨ j = 4 ∨ j = 5 ∨ j = 6 ∨ j = 7 := by omega
    rcases this with rfl | rfl | rfl | rfl | rfl | rfl | rfl | rfl
    · rfl
    · show g.1 8 i = h.1 8 i
      rw [c.C 8 (by decide)]
    · rfl
    · show g.1 11 i = h.1 11 i
      rw [c.C 11 (by decide)]
    · show g.1 12 i = h.1 12 i
      rw [c.C 12 (by decide)]
    · exact Hg.sX
    · exact Hg.eX
    · rfl
