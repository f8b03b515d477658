/-- how many ways, and the first -/
abbrev CT : Type := Nat × Option (Nat × Nat × Nat × Nat)
def adn (s : CT) (t : Nat × Nat × Nat × Nat) (b : Bool) : CT := if b then (s.1 + 1, some (s.2.getD t)) else s
def q4 (m : Rw → Nat → Int32) (N : Nat) (T : Rw) (i v j w : Nat) : Bool := !decide (slp m N i (nI v) T (N - 1) = T (N - 1)) && !decide (nI w = slp m N i (nI v) T j) && decide (slp m N j (nI w) (slp m N i (nI v) T) (N - 1) = T (N - 1))
def ca3 (m : Rw → Nat → Int32) (N : Nat) (T : Rw) (i v j k : Nat) (s : CT) : CT := itf (fun w s => adn s (i, v, j, w) (q4 m N T i v j w)) 0 k s
def ca2 (m : Rw → Nat → Int32) (N M : Nat) (T : Rw) (i v k : Nat) (s : CT) : CT := itf (fun j s => ca3 m N T i v j M s) (i + 1) k s
def ca1 (m : Rw → Nat → Int32) (N M : Nat) (T : Rw) (i k : Nat) (s : CT) : CT := itf (fun v s => ca2 m N M T i v (N - (i + 1)) s) 0 k s
def ca0 (m : Rw → Nat → Int32) (N M : Nat) (T : Rw) (k : Nat) : CT := itf (fun i s => ca1 m N M T i M s) 0 k (0, none)
def CTok (s : CT) : Prop := s.1 = 0 ↔ s.2 = none
theorem adn_ok {s : CT} {t : Nat × Nat × Nat × Nat} {b : Bool} (h : CTok s) : CTok (adn s t b) := by
  unfold adn
  cases b
  · exact h
  · show s.1 + 1 = 0 ↔ _
    constructor
    · intro q; omega
    · intro q; cases q
/-- the model's slots hold the state -/
def EncM (g : AH) (s : CT) : Prop := g.1 75 43 = nI s.1 ∧ CTok s ∧ ∀ t, s.2 = some t → g.1 75 44 = nI t.1 ∧ g.1 75 45 = nI t.2.1 ∧ g.1 75 46 = nI t.2.2.1 ∧ g.1 75 47 = nI t.2.2.2
theorem WM.core {N M : Nat} {h g : AH} (c : Core h g) (w : WM N M h) : WM N M g := by
  unfold WM
  rw [c.P 75 2 (by decide), c.P 75 0 (by decide), c.C 76 (by decide), c.C 78 (by decide), c.C 79 (by decide), c.C 80 (by decide)]
  exact w
theorem core75 {h g : AH} {j : Nat} {v : Int32} (c : Core h g) (hj : coreS.contains (75, j) = false) : Core h (sI g 75 j v) := c.tr (Core.sI (by rw [hj]; rfl))
theorem lc55 {N M i v j B : Nat} {h g : AH} {T : Rw} {s : CT} {K : AH → Option AH} (w : WM N M h) (hi : i < N) (hj : j < N) (hB : s.1 + M ≤ B) (hB2 : B < 2 ^ 31) (c : Core h g) (e87 : g.1 87 = T) (e88 : eqOn N (g.1 88) (slp (mM h) N i (nI v) T)) (hs : EncM g s) (hsh : ¬ slp (mM h) N i (nI v) T (N - 1) = T (N - 1)) :
    ∃ g', fX12_laysCancel_l55 K (nI i) (nI v) (nI j) fuel0 0 g = K g' ∧ Core h g' ∧ g'.1 87 = T ∧ eqOn N (g'.1 88) (slp (mM h) N i (nI v) T) ∧ EncM g' (ca3 (mM h) N T i v j M s) ∧ (ca3 (mM h) N T i v j M s).1 ≤ s.1 + M := by
  have hN := w.N
  obtain ⟨-, hm, m1, m2, -⟩ := w.2
  obtain ⟨g', hg, hI⟩ := for_ex (F := fun m xx g => fX12_laysCancel_l55 K (nI i) (nI v) (nI j) m xx g) K M (by omega) (fun k g => Core h g ∧ g.1 87 = T ∧ eqOn N (g.1 88) (slp (mM h) N i (nI v) T) ∧ EncM g (ca3 (mM h) N T i v j k s) ∧ (ca3 (mM h) N T i v j k s).1 ≤ s.1 + k) (fun m k g hk hI => by
      obtain ⟨c, e87, e88, hs, hle⟩ := hI
      have wg := w.core c
      show ∃ s', fX12_laysCancel_l55b (fX12_laysCancel_l55 K (nI i) (nI v) (nI j) m) K (nI i) (nI v) (nI j) (nI k) g = _ ∧ _
      unfold fX12_laysCancel_l55b
      have g20 := gd (show j < 20 by omega) (by decide)
      have gl := gd (show N - 1 < 20 by omega) (by decide)
      obtain ⟨r, er, qr⟩ := slips_eq (a := 88) (b := 89) (v := nI k) wg (by unfold offM; omega) (by decide) (by decide) (by decide) hj
      have qr2 : r (N - 1) = slp (mM h) N j (nI k) (slp (mM h) N i (nI v) T) (N - 1) := by
        rw [qr (N - 1) (by omega), mM_core c]
        exact slp_cong (mM_ahead w) hj e88 (N - 1) (by omega)
      have hsz : (sR g 89 r).1 75 2 = nI N := wg.1
      have e87' : (sR g 89 r).1 87 = T := by rw [sR_ne _ _ (by decide), e87]
      have c3 : Core h (sR g 89 r) := c.tr (Core.sR rfl)
      have e43 : (sR g 89 r).1 75 43 = nI (ca3 (mM h) N T i v j k s).1 := hs.1
      rw [c.P 75 0 (by decide), hm, if_pos (nI_lt hk (by omega)), if_neg g20, nI_clamp (by omega), e88 j hj, er, ob, hsz, nI_sub1 (by omega), if_neg gl, if_neg gl, nI_clamp (by omega), sR_at, e87', qr2, nI_1, e43]
      dsimp only [letT]
      have st : ca3 (mM h) N T i v j (k + 1) s = adn (ca3 (mM h) N T i v j k s) (i, v, j, k) (q4 (mM h) N T i v j k) := by
        unfold ca3
        rw [itf_last, Nat.zero_add]
      rw [st]
      generalize ca3 (mM h) N T i v j k s = u at hs hle e43 ⊢
      by_cases a1 : nI k = slp (mM h) N i (nI v) T j
      · have hq : q4 (mM h) N T i v j k = false := by unfold q4; simp [a1]
        rw [if_pos a1, hq]
        exact ⟨g, rfl, c, e87, e88, hs, by show u.1 ≤ _; omega⟩
      · rw [if_neg a1]
        by_cases a2 : slp (mM h) N j (nI k) (slp (mM h) N i (nI v) T) (N - 1) = T (N - 1)
        · have hq : q4 (mM h) N T i v j k = true := by unfold q4; simp [a1, a2, hsh]
          rw [if_pos a2, hq]
          by_cases u0 : u.1 = 0
          · rw [if_pos (by rw [u0]; rfl)]
            refine ⟨_, rfl, ?_, ?_, ?_, ?_, ?_⟩
            · exact core75 (core75 (core75 (core75 (core75 c3 rfl) rfl) rfl) rfl) rfl
            · exact e87'
            · exact e88
            · have hno : u.2 = none := hs.2.1.mp u0
              refine ⟨?_, adn_ok hs.2.1, fun t ht => ?_⟩
              · show g.1 75 43 + 1 = nI (u.1 + 1)
                rw [hs.1]
                exact nI_1 _
              · have : t = (i, v, j, k) := by
                  have : (adn u (i, v, j, k) true).2 = some (u.2.getD (i, v, j, k)) := rfl
                  rw [this, hno] at ht
                  exact (Option.some.inj ht).symm
                subst this
                exact ⟨rfl, rfl, rfl, rfl⟩
            · show u.1 + 1 ≤ _; omega
          · rw [if_neg (show ¬ nI u.1 = 0 from ne_lit (j := 0) (by omega) (by decide) u0)]
            refine ⟨_, rfl, core75 c3 rfl, e87', e88, ?_, ?_⟩
            · refine ⟨?_, adn_ok hs.2.1, fun t ht => ?_⟩
              · show nI u.1 + 1 = nI (u.1 + 1)
                exact nI_1 _
              · have h2 : (adn u (i, v, j, k) true).2 = some (u.2.getD (i, v, j, k)) := rfl
                rw [h2] at ht
                cases hu : u.2 with
                | none => exact absurd (hs.2.1.mpr hu) u0
                | some t' =>
                  rw [hu] at ht
                  have : t = t' := (Option.some.inj ht).symm
                  subst this
                  exact hs.2.2 t hu
            · show u.1 + 1 ≤ _; omega
        · have hq : q4 (mM h) N T i v j k = false := by unfold q4; simp [a2]
          rw [if_neg a2, hq]
          exact ⟨sR g 89 r, rfl, c3, e87', e88, hs, by show u.1 ≤ _; omega⟩) (fun m g hI => by
      show fX12_laysCancel_l55b (fX12_laysCancel_l55 K (nI i) (nI v) (nI j) m) K (nI i) (nI v) (nI j) (nI M) g = _
      unfold fX12_laysCancel_l55b
      rw [hI.1.P 75 0 (by decide), hm, if_neg (nI_nlt (Nat.le_refl _) (by omega))]) fuel0 0 g (by omega) (by have := fuel_big; omega) ⟨c, e87, e88, hs, by show s.1 ≤ _; omega⟩
  exact ⟨g', hg, hI⟩
theorem laysCancel_eq {N M i v B : Nat} {h g : AH} {T : Rw} {s : CT} (w : WM N M h) (hi : i < N) (hB : s.1 + N * M ≤ B) (hB2 : B < 2 ^ 31) (c : Core h g) (e87 : g.1 87 = T) (hs : EncM g s) :
    ∃ g', fX12_laysCancel (nI i) (nI v) g = some g' ∧ Core h g' ∧ g'.1 87 = T ∧ EncM g' (ca2 (mM h) N M T i v (N - (i + 1)) s) ∧ (ca2 (mM h) N M T i v (N - (i + 1)) s).1 ≤ s.1 + N * M := by
  have hN := w.N
  have wg := w.core c
  unfold fX12_laysCancel
  obtain ⟨r, er, qr⟩ := slips_eq (a := 87) (b := 88) (v := nI v) wg (by unfold offM; omega) (by decide) (by decide) (by decide) hi
  rw [mM_core c, e87] at qr
  have gl := gd (show N - 1 < 20 by omega) (by decide)
  have hsz : (sR g 88 r).1 75 2 = nI N := wg.1
  have e87' : (sR g 88 r).1 87 = T := by rw [sR_ne _ _ (by decide), e87]
  have c3 : Core h (sR g 88 r) := c.tr (Core.sR rfl)
  have e88 : eqOn N ((sR g 88 r).1 88) (slp (mM h) N i (nI v) T) := by rw [sR_at]; exact qr
  have hs3 : EncM (sR g 88 r) s := hs
  rw [er, ob, hsz, nI_sub1 (by omega), if_neg gl, if_neg gl, nI_clamp (by omega), e88 (N - 1) (by omega), e87', nI_1]
  dsimp only [letT]
  generalize sR g 88 r = g1 at e87' c3 e88 hs3
  by_cases hsh : slp (mM h) N i (nI v) T (N - 1) = T (N - 1)
  · rw [if_pos hsh]
    have hid : ∀ k s, ca2 (mM h) N M T i v k s = s := by
      intro k s
      unfold ca2
      have h3 : ∀ j s, ca3 (mM h) N T i v j M s = s := by
        intro j s
        unfold ca3
        generalize M = k
        induction k with
        | zero => rfl
        | succ k ih =>
          rw [itf_last, ih]
          unfold adn q4
          simp [hsh]
      induction k with
      | zero => rfl
      | succ k ih => rw [itf_last, ih, h3]
    rw [hid]
    exact ⟨g1, rfl, c3, e87', hs3, by omega⟩
  · rw [if_neg hsh]
    obtain ⟨g', hg, hI⟩ := for_ex (F := fun m xx g => fX12_laysCancel_l44 (nI i) (nI v) m xx g) (fun g => some g) N (by omega) (fun k g => i < k ∧ Core h g ∧ g.1 87 = T ∧ eqOn N (g.1 88) (slp (mM h) N i (nI v) T) ∧ EncM g (ca2 (mM h) N M T i v (k - (i + 1)) s) ∧ (ca2 (mM h) N M T i v (k - (i + 1)) s).1 ≤ s.1 + (k - (i + 1)) * M) (fun m k g hk hI => by
        obtain ⟨hik, c, e87, e88, hs, hle⟩ := hI
        show ∃ s', fX12_laysCancel_l44b (fX12_laysCancel_l44 (nI i) (nI v) m) (nI i) (nI v) (nI k) g = _ ∧ _
        unfold fX12_laysCancel_l44b
        have hmul : (k - (i + 1)) * M + M ≤ N * M := by
          have : (k - (i + 1) + 1) * M ≤ N * M := Nat.mul_le_mul_right M (by omega)
          rwa [Nat.succ_mul] at this
        obtain ⟨g', a1, a2, a3, a4, a5, a6⟩ := lc55 (K := fun g23 => fX12_laysCancel_l44 (nI i) (nI v) m (nI k + 1) g23) (v := v) (s := ca2 (mM h) N M T i v (k - (i + 1)) s) (B := B) w hi hk (by omega) hB2 c e87 e88 hs hsh
        rw [(w.core c).1, if_pos (nI_lt hk (by omega)), a1, nI_1]
        have st : ca2 (mM h) N M T i v (k + 1 - (i + 1)) s = ca3 (mM h) N T i v k M (ca2 (mM h) N M T i v (k - (i + 1)) s) := by
          unfold ca2
          rw [show k + 1 - (i + 1) = (k - (i + 1)) + 1 by omega, itf_last, show i + 1 + (k - (i + 1)) = k by omega]
        rw [st]
        refine ⟨g', rfl, by omega, a2, a3, a4, a5, ?_⟩
        have : (k + 1 - (i + 1)) * M = (k - (i + 1)) * M + M := by rw [show k + 1 - (i + 1) = (k - (i + 1)) + 1 by omega, Nat.succ_mul]
        omega) (fun m g hI => by
        show fX12_laysCancel_l44b (fX12_laysCancel_l44 (nI i) (nI v) m) (nI i) (nI v) (nI N) g = _
        unfold fX12_laysCancel_l44b
        rw [(w.core hI.2.1).1, if_neg (nI_nlt (Nat.le_refl _) (by omega))]) fuel0 (i + 1) g1 (by omega) (by have := fuel_big; omega) ⟨by omega, c3, e87', e88, by rw [Nat.sub_self]; exact hs3, by rw [Nat.sub_self]; show s.1 ≤ _; omega⟩
    obtain ⟨-, b2, b3, b4, b5, b6⟩ := hI
    refine ⟨g', hg, b2, b3, b5, ?_⟩
    have : (N - (i + 1)) * M ≤ N * M := Nat.mul_le_mul_right M (by omega)
    omega
theorem cancelM {N M p : Nat} {h : AH} (w : WM N M h) (hp : p ≤ 4) (h0 : 0 < N) (h8 : N ≤ 8) : ∃ h1, mo_cancel (nI p) h = some ((if p = 0 then nI (ca0 (mM h) N M (wk (mM h) 0 N (h.1 87)) N).1 else match (ca0 (mM h) N M (wk (mM h) 0 N (h.1 87)) N).2 with | none => -2 | some t => if p = 1 then nI t.1 else if p = 2 then nI t.2.1 else if p = 3 then nI t.2.2.1 else nI t.2.2.2), h1) ∧ Core h h1 := by
  have hN := w.N
  obtain ⟨-, hm, m1, m2, -⟩ := w.2
  unfold mo_cancel fX12_cancel
  rw [in_yes (nI_pos (by omega)) (show ¬ (4 : Int32) < nI p from nI_nlt (a := 4) (by omega) (by decide)), if_neg (by decide), w.1, if_neg (show ¬ nI N = 0 from ne_lit (j := 0) (by omega) (by decide) (by omega)), if_neg (show ¬ (8 : Int32) < nI N from nI_nlt (a := 8) (by omega) (by decide)), laysTruth_eq w, ob]
  dsimp only [letT]
  generalize hT : wk (mM h) 0 N (h.1 87) = T
  have c0 : Core h (sI (sR h 87 T) 75 43 0) := core75 (Core.sR rfl) rfl
  have e0 : (sI (sR h 87 T) 75 43 0).1 87 = T := by
    show (sR h 87 T).1 87 = T
    exact sR_at _ _ _
  have hs0 : EncM (sI (sR h 87 T) 75 43 0) (0, none) := ⟨rfl, ⟨fun _ => rfl, fun _ => rfl⟩, fun t ht => by cases ht⟩
  generalize sI (sR h 87 T) 75 43 0 = g0 at c0 e0 hs0
  generalize hK : (fun g14 : AH => if nI p = 0 then some (g14.1 75 43, g14) else if (g14.1 75 43) = 0 then some ((-2 : Int32), g14) else if nI p = (1 : Int32) then some (g14.1 75 44, g14) else if nI p = (2 : Int32) then some (g14.1 75 45, g14) else if nI p = (3 : Int32) then some (g14.1 75 46, g14) else some (g14.1 75 47, g14)) = K
  have hNM : N * M ≤ 8 * 97 := Nat.mul_le_mul h8 m2
  obtain ⟨g', hg, c, -, hs, hle⟩ := for_ex (F := fun m xx g => fX12_cancel_l38 K (nI p) m xx g) K N (by omega) (fun k g => Core h g ∧ g.1 87 = T ∧ EncM g (ca0 (mM h) N M T k) ∧ (ca0 (mM h) N M T k).1 ≤ k * (97 * 776)) (fun m k g hk hI => by
      obtain ⟨c, e87, hs, hle⟩ := hI
      show ∃ s', fX12_cancel_l38b (fX12_cancel_l38 K (nI p) m) K (nI p) (nI k) g = _ ∧ _
      unfold fX12_cancel_l38b
      rw [(w.core c).1, if_pos (nI_lt hk (by omega)), nI_1]
      obtain ⟨g', b1, b2, b3, b4, b5⟩ := for_ex (F := fun m' xx g => fX12_cancel_l48 (fun g13 => fX12_cancel_l38 K (nI p) m (nI (k + 1)) g13) (nI p) (nI k) m' xx g) (fun g13 => fX12_cancel_l38 K (nI p) m (nI (k + 1)) g13) M (by omega) (fun v g => Core h g ∧ g.1 87 = T ∧ EncM g (ca1 (mM h) N M T k v (ca0 (mM h) N M T k)) ∧ (ca1 (mM h) N M T k v (ca0 (mM h) N M T k)).1 ≤ k * (97 * 776) + v * 776) (fun m' v g hv hI => by
          obtain ⟨c, e87, hs, hle⟩ := hI
          show ∃ s', fX12_cancel_l48b (fX12_cancel_l48 (fun g13 => fX12_cancel_l38 K (nI p) m (nI (k + 1)) g13) (nI p) (nI k) m') (fun g13 => fX12_cancel_l38 K (nI p) m (nI (k + 1)) g13) (nI p) (nI k) (nI v) g = _ ∧ _
          unfold fX12_cancel_l48b
          have g20 := gd (show k < 20 by omega) (by decide)
          have hk8 : k * (97 * 776) ≤ 8 * (97 * 776) := Nat.mul_le_mul_right _ (by omega)
          obtain ⟨g', a1, a2, a3, a4, a5⟩ := laysCancel_eq (v := v) (s := ca1 (mM h) N M T k v (ca0 (mM h) N M T k)) (B := 1000000) w hk (by omega) (by decide) c e87 hs
          rw [c.P 75 0 (by decide), hm, if_pos (nI_lt hv (by omega)), if_neg g20, nI_clamp (by omega), e87, a1, ob, nI_1]
          have st : ca1 (mM h) N M T k (v + 1) (ca0 (mM h) N M T k) = ca2 (mM h) N M T k v (N - (k + 1)) (ca1 (mM h) N M T k v (ca0 (mM h) N M T k)) := by
            unfold ca1
            rw [itf_last, Nat.zero_add]
          by_cases e : nI v = T k
          · rw [if_pos e]
            refine ⟨g, rfl, c, e87, ?_⟩
            have hid : ca2 (mM h) N M T k v (N - (k + 1)) (ca1 (mM h) N M T k v (ca0 (mM h) N M T k)) = ca1 (mM h) N M T k v (ca0 (mM h) N M T k) := by
              have hsh : slp (mM h) N k (nI v) T (N - 1) = T (N - 1) := by
                have ht : ∀ l, l < N → T l = mM h T l := fun l hl => by
                  rw [← hT]
                  exact wk_in' (mM_ahead w) (by omega) (by omega) (by omega)
                have := wk_uniq (M := mM h) (M' := mM h) (k := k + 1) (N := N) (r := slp (mM h) N k (nI v) T) (r' := T) (mM_ahead w) (fun l hl => by
                  unfold slp
                  rw [wk_out (by omega)]
                  by_cases e2 : l = k
                  · rw [e2, upd_at, e]
                  · rw [upd_ne _ _ e2]) (fun l h1 h2 => by
                  unfold slp
                  exact wk_in' (mM_ahead w) (by omega) (by omega) (by omega)) (fun l _ h2 => ht l h2)
                exact this (N - 1) (by omega)
              have h3 : ∀ j s, ca3 (mM h) N T k v j M s = s := by
                intro j s
                unfold ca3
                generalize M = q
                induction q with
                | zero => rfl
                | succ q ih =>
                  rw [itf_last, ih]
                  unfold adn q4
                  simp [hsh]
              unfold ca2
              generalize N - (k + 1) = q
              generalize ca1 (mM h) N M T k v (ca0 (mM h) N M T k) = u
              induction q with
              | zero => rfl
              | succ q ih => rw [itf_last, ih, h3]
            rw [st, hid]
            exact ⟨hs, Nat.le_trans hle (Nat.add_le_add_left (Nat.mul_le_mul_right _ (Nat.le_succ v)) _)⟩
          · rw [if_neg e]
            rw [st]
            refine ⟨g', rfl, a2, a3, a4, Nat.le_trans a5 ?_⟩
            rw [Nat.succ_mul v 776, ← Nat.add_assoc]
            exact Nat.add_le_add hle hNM) (fun m' g hI => by
          show fX12_cancel_l48b (fX12_cancel_l48 (fun g13 => fX12_cancel_l38 K (nI p) m (nI (k + 1)) g13) (nI p) (nI k) m') (fun g13 => fX12_cancel_l38 K (nI p) m (nI (k + 1)) g13) (nI p) (nI k) (nI M) g = _
          unfold fX12_cancel_l48b
          rw [hI.1.P 75 0 (by decide), hm, if_neg (nI_nlt (Nat.le_refl _) (by omega))]) fuel0 0 g (by omega) (by have := fuel_big; omega) ⟨c, e87, hs, Nat.le_trans hle (Nat.le_add_right _ _)⟩
      have st : ca0 (mM h) N M T (k + 1) = ca1 (mM h) N M T k M (ca0 (mM h) N M T k) := by
        unfold ca0
        rw [itf_last, Nat.zero_add]
      rw [st]
      refine ⟨g', b1, b2, b3, b4, ?_⟩
      have : M * 776 ≤ 97 * 776 := Nat.mul_le_mul_right _ m2
      have h2 : (k + 1) * (97 * 776) = k * (97 * 776) + 97 * 776 := Nat.succ_mul _ _
      omega) (fun m g hI => by
      show fX12_cancel_l38b (fX12_cancel_l38 K (nI p) m) K (nI p) (nI N) g = _
      unfold fX12_cancel_l38b
      rw [(w.core hI.1).1, if_neg (nI_nlt (Nat.le_refl _) (by omega))]) fuel0 0 g0 (by omega) (by have := fuel_big; omega) ⟨c0, e0, hs0, by show 0 ≤ _; omega⟩
  refine ⟨g', hg.trans ?_, c⟩
  rw [← hK]
  dsimp only
  generalize ca0 (mM h) N M T N = u at hs hle ⊢
  have hu : u.1 < 2 ^ 31 := by
    have : N * (97 * 776) ≤ 8 * (97 * 776) := Nat.mul_le_mul_right _ (by omega)
    omega
  rw [hs.1]
  by_cases p0 : p = 0
  · rw [if_pos (by rw [p0]; rfl), if_pos p0]
  · rw [if_neg (show ¬ nI p = 0 from ne_lit (j := 0) (by omega) (by decide) p0), if_neg p0]
    cases ho : u.2 with
    | none => rw [if_pos (by rw [hs.2.1.mpr ho]; rfl)]
    | some t =>
      have : ¬ u.1 = 0 := fun q => by rw [hs.2.1.mp q] at ho; cases ho
      obtain ⟨t1, t2, t3, t4⟩ := hs.2.2 t ho
      rw [if_neg (show ¬ nI u.1 = 0 from ne_lit (j := 0) hu (by decide) this), t1, t2, t3, t4]
      by_cases p1 : p = 1
      · rw [if_pos (by rw [p1]; rfl)]; simp [p1]
      · rw [if_neg (show ¬ nI p = 1 from ne_lit (j := 1) (by omega) (by decide) p1)]
        by_cases p2 : p = 2
        · rw [if_pos (by rw [p2]; rfl)]; simp [p2]
        · rw [if_neg (show ¬ nI p = 2 from ne_lit (j := 2) (by omega) (by decide) p2)]
          by_cases p3 : p = 3
          · rw [if_pos (by rw [p3]; rfl)]; simp [p3]
          · rw [if_neg (show ¬ nI p = 3 from ne_lit (j := 3) (by omega) (by decide) p3)]
            simp [p1, p2, p3]
