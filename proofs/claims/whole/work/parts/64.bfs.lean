/-! ===== what is reached, knot by knot ===== -/
def aG (h : AH) (u v : Nat) : Bool := bL (h.2 59 u) v
def upd' (f : Nat → Nat) (k x : Nat) : Nat → Nat := fun j => if j = k then x else f j
def clo (a : Nat → Nat → Bool) (W : Nat → Bool) : Prop := ∀ u v, u < 41 → v < 41 → W u = true → a u v = true → W v = true
def Bfs (g0 g : AH) (a : Nat → Nat → Bool) (st : Nat) (sn : Nat → Bool) (rk : Nat → Nat) (w : Nat) : Prop :=
  Core g0 g ∧ g.2 = g0.2 ∧ w = ct sn 41 ∧ sn st = true ∧ (∀ v, v < 41 → sn v = true → rk v < w ∧ g.1 61 (rk v) = nI v) ∧ (∀ j, j < w → ∃ v, v < 41 ∧ sn v = true ∧ rk v = j) ∧
  (∀ v, v < 41 → sn v = true → v ≠ st → ∃ p, p < 41 ∧ g.1 60 v = nI p ∧ sn p = true ∧ a p v = true ∧ rk p < rk v) ∧ ∀ W : Nat → Bool, W st = true → clo a W → ∀ v, v < 41 → sn v = true → W v = true
theorem Bfs.add {g0 g : AH} {a : Nat → Nat → Bool} {st w p x : Nat} {sn : Nat → Bool} {rk : Nat → Nat} (B : Bfs g0 g a st sn rk w) (hp : p < 41) (sp : sn p = true) (hx : x < 41) (nx : sn x = false) (ha : a p x = true) : w < 41 ∧ Bfs g0 (sI (sI g 60 x (nI p)) 61 w (nI x)) a st (fun v => sn v || decide (v = x)) (upd' rk x w) (w + 1) := by
  obtain ⟨b1, b2, b3, b4, b5, b6, b7, b8⟩ := B
  have hct : ct (fun v => sn v || decide (v = x)) 41 = ct sn 41 + 1 := by
    have := ct_drop (p := fun v => sn v || decide (v = x)) (l := x) (N := 41) hx (by simp)
    rw [← this]
    congr 1
    refine ct_cong (fun m _ => ?_)
    by_cases e : m = x
    · rw [e, nx]; simp
    · simp [e]
  have hw : w < 41 := by
    have := ct_le (fun v => sn v || decide (v = x)) 41
    omega
  have upx : upd' rk x w x = w := if_pos rfl
  have upn : ∀ v, v ≠ x → upd' rk x w v = rk v := fun v hv => if_neg hv
  have snx : ∀ v, (sn v || decide (v = x)) = true → v ≠ x → sn v = true := fun v h hv => by simpa [hv] using h
  refine ⟨hw, (b1.tr (Core.sR (a := 60) rfl)).tr (Core.sR (a := 61) rfl), b2, by rw [hct, b3], by simp [b4], fun v hv h => ?_, fun j hj => ?_, fun v hv h hne => ?_, fun W h1 h2 v hv h => ?_⟩
  · by_cases e : v = x
    · subst e
      rw [upx]
      exact ⟨by omega, upd_at _ _ _⟩
    · obtain ⟨q1, q2⟩ := b5 v hv (snx v h e)
      rw [upn v e]
      refine ⟨by omega, ?_⟩
      show upd (g.1 61) w (nI x) (rk v) = nI v
      rw [upd_ne _ _ (by omega)]
      exact q2
  · by_cases e : j = w
    · exact ⟨x, hx, by simp, by rw [upx, e]⟩
    · obtain ⟨v, v1, v2, v3⟩ := b6 j (by omega)
      have : v ≠ x := fun q => by rw [q, nx] at v2; cases v2
      exact ⟨v, v1, by simp [v2], by rw [upn v this]; exact v3⟩
  · by_cases e : v = x
    · subst e
      refine ⟨p, hp, ?_, by simp [sp], ha, ?_⟩
      · show upd (g.1 60) v (nI p) v = nI p
        exact upd_at _ _ _
      · have : p ≠ v := fun q => by rw [q, nx] at sp; cases sp
        rw [upx, upn p this]
        exact (b5 p hp sp).1
    · obtain ⟨q, q1, q2, q3, q4, q5⟩ := b7 v hv (snx v h e) hne
      have : q ≠ x := fun z => by rw [z, nx] at q3; cases q3
      refine ⟨q, q1, ?_, by simp [q3], q4, by rw [upn q this, upn v e]; exact q5⟩
      show upd (g.1 60) x (nI p) v = nI q
      rw [upd_ne _ _ e]
      exact q2
  · by_cases e : v = x
    · subst e
      exact h2 p v hp hv (b8 W h1 h2 p hp sp) ha
    · exact b8 W h1 h2 v hv (snx v h e)
theorem bfs64 {g0 g : AH} {a : Nat → Nat → Bool} {st w p : Nat} {sn : Nat → Bool} {rk : Nat → Nat} {x2 fr : Int64} {x5 : Int32} {K : Int32 → AH → Option (Int64 × AH)} (B : Bfs g0 g a st sn rk w) (hp : p < 41) (sp : sn p = true) (hf : ∀ v, v < 41 → bL fr v = (a p v && !sn v)) :
    ∃ g' w' rk', fX3_reachedFrom_l64 K x2 x5 (nI p) fr fuel0 (nI w) 0 g = K (nI w') g' ∧ Bfs g0 g' a st (fun v => sn v || (a p v && decide (v < 41))) rk' w' ∧ w ≤ w' ∧ ∀ v, v < 41 → sn v = true → rk' v = rk v := by
  by_cases z : fr = 0
  · obtain ⟨n, hn⟩ := fuel_plus 1 (by decide)
    refine ⟨g, w, rk, ?_, ?_, Nat.le_refl _, fun _ _ _ => rfl⟩
    · rw [hn]
      show fX3_reachedFrom_l64b (fX3_reachedFrom_l64 K x2 x5 (nI p) fr n) K x2 x5 (nI p) fr (nI w) 0 g = _
      unfold fX3_reachedFrom_l64b
      rw [if_neg (by decide), if_pos (lg_zero.mpr z)]
    · have e : (fun v => sn v || (a p v && decide (v < 41))) = sn := by
        funext v
        by_cases hv : v < 41
        · have := hf v hv
          rw [z, l_0] at this
          cases h1 : sn v with
          | true => rfl
          | false => rw [h1] at this; simp at this; simp [this]
        · simp [hv]
      rw [e]
      exact B
  · obtain ⟨s, e, w', rk', e1, B', le, hr⟩ := for_ex (F := fun m xx (s : Int32 × AH) => fX3_reachedFrom_l64 K x2 x5 (nI p) fr m s.1 xx s.2) (fun s => K s.1 s.2) 41 (by decide) (fun x s => ∃ w' rk', s.1 = nI w' ∧ Bfs g0 s.2 a st (fun v => sn v || (a p v && decide (v < x))) rk' w' ∧ w ≤ w' ∧ ∀ v, v < 41 → sn v = true → rk' v = rk v) (fun m x s hx hI => by
        obtain ⟨i1, g⟩ := s
        obtain ⟨w', rk', e1, B', le, hr⟩ := hI
        dsimp only at e1 B'
        subst e1
        show ∃ s', fX3_reachedFrom_l64b (fX3_reachedFrom_l64 K x2 x5 (nI p) fr m) K x2 x5 (nI p) fr (nI w') (nI x) g = _ ∧ _
        unfold fX3_reachedFrom_l64b
        rw [if_neg (show ¬ (40 : Int32) < nI x from nI_nlt (a := 40) (by omega) (by omega)), if_neg (fun q => z (lg_zero.mp q)), nI_1]
        have ask := l_ask fr (show x < 64 by omega)
        rw [hf x hx] at ask
        by_cases c : (a p x && !sn x) = true
        · rw [if_neg (fun q => by rw [ask.mp q] at c; cases c)]
          simp only [Bool.and_eq_true, Bool.not_eq_true'] at c
          obtain ⟨hw, B2⟩ := B'.add hp (by simp [sp]) hx (by simp [c.2]) c.1
          dsimp only [letT]
          rw [put_in (show x < aln 60 from hx), put_in (show w' < aln 61 from hw), nI_1]
          refine ⟨(nI (w' + 1), _), rfl, w' + 1, upd' rk' x w', rfl, ?_, by omega, fun v hv h => ?_⟩
          · have e : (fun v => (sn v || (a p v && decide (v < x))) || decide (v = x)) = (fun v => sn v || (a p v && decide (v < x + 1))) := by
              funext v
              by_cases ev : v = x
              · subst ev; simp [c.1]
              · by_cases lt : v < x
                · have : v < x + 1 := by omega
                  simp [ev, lt, this]
                · have : ¬ v < x + 1 := by omega
                  simp [ev, lt, this]
            rw [e] at B2
            exact B2
          · have : v ≠ x := fun q => by rw [q, c.2] at h; cases h
            show upd' rk' x w' v = rk v
            rw [show upd' rk' x w' v = rk' v from if_neg this]
            exact hr v hv h
        · have c' : (a p x && !sn x) = false := by simpa using c
          rw [if_pos (ask.mpr c')]
          refine ⟨(nI w', g), rfl, w', rk', rfl, ?_, le, hr⟩
          have e : (fun v => sn v || (a p v && decide (v < x + 1))) = (fun v => sn v || (a p v && decide (v < x))) := by
            funext v
            by_cases ev : v = x
            · subst ev
              cases h1 : sn v with
              | true => rfl
              | false => rw [h1] at c'; simp at c'; simp [c']
            · by_cases lt : v < x
              · have : v < x + 1 := by omega
                simp [lt, this]
              · have : ¬ v < x + 1 := by omega
                simp [lt, this]
          dsimp only
          rw [e]
          exact B') (fun m s hI => by
        show fX3_reachedFrom_l64b (fX3_reachedFrom_l64 K x2 x5 (nI p) fr m) K x2 x5 (nI p) fr s.1 (nI 41) s.2 = _
        unfold fX3_reachedFrom_l64b
        rw [if_pos (by decide)]) fuel0 0 (nI w, g) (by omega) (by have := fuel_big; omega) ⟨w, rk, rfl, by
          have e : (fun v => sn v || (a p v && decide (v < 0))) = sn := by funext v; simp
          dsimp only
          rw [e]
          exact B, Nat.le_refl _, fun _ _ _ => rfl⟩
    refine ⟨s.2, w', rk', e.trans (by rw [e1]), B', le, hr⟩
/-- all is reached, each from one that came before it -/
def BfsR (g0 g : AH) (a : Nat → Nat → Bool) (st : Nat) (R : Int64) : Prop :=
  Core g0 g ∧ g.2 = g0.2 ∧ ∃ (sn : Nat → Bool) (rk : Nat → Nat), (∀ v, v < 41 → bL R v = sn v) ∧ sn st = true ∧ clo a sn ∧ (∀ W : Nat → Bool, W st = true → clo a W → ∀ v, v < 41 → sn v = true → W v = true) ∧ (∀ v, v < 41 → sn v = true → rk v < 41) ∧ ∀ v, v < 41 → sn v = true → v ≠ st → ∃ p, p < 41 ∧ g.1 60 v = nI p ∧ sn p = true ∧ a p v = true ∧ rk p < rk v
theorem bfs19 {g0 : AH} {a : Nat → Nat → Bool} {st : Nat} (ha : ∀ u v, u < 41 → v < 41 → aG g0 u v = a u v) : ∀ (d n t w : Nat) (x2 : Int64) (sn : Nat → Bool) (rk : Nat → Nat) (g : AH), t + d = 42 → d < n → t ≤ w → Bfs g0 g a st sn rk w → (∀ v, v < 41 → bL x2 v = sn v) → (∀ v, v < 41 → sn v = true → rk v < t → ∀ u, u < 41 → a v u = true → sn u = true) →
    ∃ R g', fX3_reachedFrom_l19 n x2 (nI w) (nI t) g = some (R, g') ∧ BfsR g0 g' a st R := by
  intro d
  induction d with
  | zero =>
    intro n t w x2 sn rk g h1 _ h3 B
    have := ct_le sn 41
    have := B.2.2.1
    omega
  | succ d ih =>
    intro n t w x2 sn rk g h1 h2 h3 B hx hdone
    obtain ⟨n, rfl⟩ : ∃ n', n = n' + 1 := ⟨n - 1, by omega⟩
    have w41 : w ≤ 41 := by have := ct_le sn 41; have := B.2.2.1; omega
    show ∃ R g', fX3_reachedFrom_l19b (fX3_reachedFrom_l19 n) x2 (nI w) (nI t) g = some (R, g') ∧ _
    unfold fX3_reachedFrom_l19b
    by_cases lt : t < w
    · rw [if_pos (nI_lt lt (by omega)), if_pos (show nI t < 41 from nI_lt (b := 41) (by omega) (by decide)), at_in (show t < aln 61 by show _ < 41; omega)]
      obtain ⟨p, p1, p2, p3⟩ := B.2.2.2.2.2.1 t lt
      have ep : g.1 61 t = nI p := by rw [← p3]; exact (B.2.2.2.2.1 p p1 p2).2
      dsimp only [letT]
      rw [ep]
      have ea : fX3_arcsOf (nI p) g = g0.2 59 p := by
        unfold fX3_arcsOf
        rw [if_neg (nI_pos (by omega)), if_pos (show nI p < 41 from nI_lt (b := 41) p1 (by decide)), nI_clamp (by omega), B.2.1]
      rw [ea]
      have hfr : ∀ v, v < 41 → bL (g0.2 59 p &&& (x2 ^^^ -1)) v = (a p v && !sn v) := fun v hv => by
        rw [l_and, l_xor, l_m1 v (by omega), hx v hv, ← ha p v p1 hv]
        cases sn v <;> simp [aG]
      obtain ⟨g', w', rk', e1, B', le, hr⟩ := bfs64 (x2 := x2) (x5 := nI t) (K := fun (y12 : Int32) (g13 : AH) => fX3_reachedFrom_l19 n (x2 ||| (g0.2 59 p &&& (x2 ^^^ -1))) y12 (nI t + 1) g13) B p1 p2 hfr
      rw [e1, nI_1]
      refine ih n (t + 1) w' _ _ rk' g' (by omega) (by omega) (by omega) B' (fun v hv => ?_) (fun v hv h hlt u hu hau => ?_)
      · rw [l_or, hx v hv, hfr v hv]
        cases sn v <;> simp [hv]
      · by_cases old : sn v = true
        · rw [hr v hv old] at hlt
          by_cases lt2 : rk v < t
          · have := hdone v hv old lt2 u hu hau
            simp [this]
          · have e : rk v = t := by omega
            have q := (B.2.2.2.2.1 v hv old).2
            rw [e, ep] at q
            have : p = v := (nI_eq (by omega) (by omega)).mp q
            subst this
            simp [hau, hu]
        · -- a new one stands behind
          have q := (B'.2.2.2.2.1 v hv h).2
          have hvt : rk' v < w := by omega
          obtain ⟨y, y1, y2, y3⟩ := B.2.2.2.2.2.1 (rk' v) hvt
          have q2 := (B'.2.2.2.2.1 y y1 (by simp [y2])).2
          rw [hr y y1 y2, y3, q] at q2
          have : v = y := (nI_eq (by omega) (by omega)).mp q2
          rw [this] at old
          exact absurd y2 old
    · have e : t = w := by omega
      subst e
      rw [if_neg (nI_nlt (Nat.le_refl _) (by omega))]
      refine ⟨x2, g, rfl, B.1, B.2.1, sn, rk, hx, B.2.2.2.1, fun u v hu hv h1 h2 => ?_, B.2.2.2.2.2.2.2, fun v hv h => ?_, B.2.2.2.2.2.2.1⟩
      · exact hdone u hu h1 (B.2.2.2.2.1 u hu h1).1 v hv h2
      · have := (B.2.2.2.2.1 v hv h).1
        omega
theorem reached_eq {g0 : AH} {a : Nat → Nat → Bool} {st : Nat} (hst : st < 41) (ha : ∀ u v, u < 41 → v < 41 → aG g0 u v = a u v) : ∃ R g', fX3_reachedFrom (nI st) g0 = some (R, g') ∧ BfsR g0 g' a st R := by
  unfold fX3_reachedFrom
  dsimp only [letT]
  rw [show (0 : Int32) = nI 0 from rfl, put_in (show 0 < aln 61 by decide)]
  have hct : ct (fun v => decide (v = st)) 41 = 1 := by
    have := ct_drop (p := fun v => decide (v = st)) (l := st) (N := 41) hst (by simp)
    have e : ct (fun m => decide (m = st) && !decide (m = st)) 41 = 0 := by
      rw [ct_fst]
      exact fst_nil (fun i _ _ => by simp)
    omega
  obtain ⟨R, g', e, q⟩ := bfs19 (g0 := g0) (a := a) (st := st) ha 42 fuel0 0 1 (jshlL 1 (nI st)) (fun v => decide (v = st)) (fun _ => 0) (sI g0 61 0 (nI st)) (by omega) (by have := fuel_big; omega) (by omega)
    ⟨Core.sR (a := 61) rfl, rfl, hct.symm, by simp, fun v hv h => ⟨Nat.zero_lt_one, by
      have : v = st := by simpa using h
      rw [this]
      exact upd_at (g0.1 61) 0 (nI st)⟩, fun j hj => ⟨st, hst, by simp, by dsimp only; omega⟩, fun v hv h hne => absurd (by simpa using h) hne, fun W h1 _ v hv h => by
      have : v = st := by simpa using h
      rw [this]
      exact h1⟩ (fun v hv => by
      rw [l_shl (by omega) (by omega)]
      by_cases e : st = v
      · simp [e]
      · have : ¬ v = st := fun q => e q.symm
        simp [e, this]) (fun v hv h hlt => by omega)
  exact ⟨R, g', e, q⟩
