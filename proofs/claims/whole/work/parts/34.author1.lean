/-! ===== author: the copies ===== -/
noncomputable def pb (P : Prop) : Bool := @decide P (Classical.propDecidable P)
theorem pb_t {P : Prop} (h : P) : pb P = true := @decide_eq_true P (Classical.propDecidable P) h
theorem pb_f {P : Prop} (h : ¬ P) : pb P = false := @decide_eq_false P (Classical.propDecidable P) h
theorem pb_cong {P Q : Prop} (h : P ↔ Q) : pb P = pb Q := by rw [propext h]
def cpr (B : Rw) (N c : Nat) : Rw := fun l => B (c * N + l)
def clm (M : Nat) (v : Int32) : Prop := ∃ u, u < M ∧ v = nI u
/-- w is the last line below n that is not as it is made -/
def LW (m : Rw → Nat → Int32) (N n : Nat) (C : Rw) (w : Int32) : Prop := ∀ f, f < N → (nI f < w ↔ ∃ k, f < k ∧ k < n ∧ ¬ C k = m C k)
/-- all are claims, of the copies before c and the first l lines of c -/
def AS (M N : Nat) (B : Rw) (c l : Nat) : Prop := (∀ c', c' < c → ∀ j, j < N → clm M (B (c' * N + j))) ∧ ∀ j, j < l → clm M (B (c * N + j))
def Fg (r : Int32) (P : Prop) : Prop := (r = 1 ∧ P) ∨ (r = 0 ∧ ¬ P)
theorem clm_X {M : Nat} {v : Int32} {h : AH} (hs : h.1 3 0 = nI M) (hM : M ≤ 97) : (clm M v ∧ fX9_isClaim v h = 1) ∨ (¬ clm M v ∧ fX9_isClaim v h = 0) := by
  rcases pl_cases (N := M) (by omega) v with ⟨u, hu, rfl⟩ | hp
  · exact Or.inl ⟨⟨u, hu, rfl⟩, isClaimX_in hs hM hu⟩
  · refine Or.inr ⟨?_, isClaimX_out hs hp⟩
    rintro ⟨u, hu, rfl⟩
    rcases hp with hp | ⟨-, hp⟩
    · exact nI_pos (by omega) hp
    · exact hp (nI_lt hu (by omega))
theorem clm_M {M : Nat} {v : Int32} {h : AH} (hs : h.1 75 0 = nI M) (hM : M ≤ 97) : (clm M v ∧ fX12_isClaim v h = 1) ∨ (¬ clm M v ∧ fX12_isClaim v h = 0) := by
  rcases pl_cases (N := M) (by omega) v with ⟨u, hu, rfl⟩ | hp
  · exact Or.inl ⟨⟨u, hu, rfl⟩, isClaimM_in hs hM hu⟩
  · refine Or.inr ⟨?_, isClaimM_out hs hp⟩
    rintro ⟨u, hu, rfl⟩
    rcases hp with hp | ⟨-, hp⟩
    · exact nI_pos (by omega) hp
    · exact hp (nI_lt hu (by omega))
/-- what the class holds of the copies before c -/
def TkD (h g : AH) (B : Rw) (N c : Nat) : Prop := ∀ c', c' < c → (∀ j, j < N → g.1 72 (c' * 20 + j) = B (c' * N + j)) ∧ LW (mX h) N N (cpr B N c') (g.1 73 c')
theorem take36 {N M x k c : Nat} {h g : AH} {B : Rw} {K : Int32 → AH → Option AH} (H : ScN N M x h) (hc : c < k) (hk : k ≤ 5) (hkN : k * N ≤ 220) (eB : h.1 2 = B) (cg : Core h g) (e3 : g.1 71 3 = nI k) (e4 : g.1 71 4 = nI N) (hf : Fg (g.1 71 5) (AS M N B c 0)) (hD : TkD h g B N c) :
    ∃ w g', fX1_takeFrom_l36 2 K (nI k) (nI c) fuel0 (-1) 0 g = K w g' ∧ Core h g' ∧ g'.1 71 3 = nI k ∧ g'.1 71 4 = nI N ∧ Fg (g'.1 71 5) (AS M N B c N) ∧ TkD h g' B N c ∧ (∀ j, j < N → g'.1 72 (c * 20 + j) = B (c * N + j)) ∧ LW (mX h) N N (cpr B N c) w := by
  have hN := H.N
  have hM := H.M97
  have hcN : c * N + N ≤ 220 := by
    have : (c + 1) * N ≤ k * N := Nat.mul_le_mul_right N (by omega)
    rw [Nat.succ_mul] at this
    omega
  obtain ⟨s, hs, q⟩ := for_ex (F := fun m xx (s : Int32 × AH) => fX1_takeFrom_l36 2 K (nI k) (nI c) m s.1 xx s.2) (fun s => K s.1 s.2) N (by omega) (fun l s => Core h s.2 ∧ s.2.1 71 3 = nI k ∧ s.2.1 71 4 = nI N ∧ Fg (s.2.1 71 5) (AS M N B c l) ∧ TkD h s.2 B N c ∧ (∀ j, j < l → s.2.1 72 (c * 20 + j) = B (c * N + j)) ∧ LW (mX h) N l (cpr B N c) s.1 ∧ eqOn l (s.2.1 74) (cpr B N c)) (fun m l s hl hI => by
      obtain ⟨w0, g⟩ := s
      obtain ⟨cg, e3, e4, hf, hD, e72, hw, e74⟩ := hI
      have Hg := H.core cg
      show ∃ s', fX1_takeFrom_l36b 2 (fX1_takeFrom_l36 2 K (nI k) (nI c) m) K (nI k) (nI c) w0 (nI l) g = _ ∧ _
      dsimp only at cg e3 e4 hf hD e72 hw e74
      have ev : fX11_at 2 ((nI c * nI N) + nI l) g = B (c * N + l) := by
        rw [nI_mul, nI_add, at_in (show c * N + l < aln 2 by show _ < 220; omega), cg.C 2 (by decide), eB]
      have ep : ∀ v h, fX11_put 72 ((nI c * 20) + nI l) v h = sI h 72 (c * 20 + l) v := fun v h => by
        rw [show (20 : Int32) = nI 20 from rfl, nI_mul, nI_add, put_in (show c * 20 + l < aln 72 by show _ < 100; omega)]
      have ep2 : ∀ v h, fX11_put 74 (nI l) v h = sI h 74 l v := fun v h => put_in (show l < aln 74 by show _ < 20; omega)
      have step : ∀ w : Int32, Fg w (AS M N B c (l + 1)) → ∃ s' : Int32 × AH, (if B (c * N + l) = fX9_made (nI l) 74 (sI (sI (sI g 71 5 w) 74 l (B (c * N + l))) 72 (c * 20 + l) (B (c * N + l))) then fX1_takeFrom_l36 2 K (nI k) (nI c) m w0 (nI (l + 1)) (sI (sI (sI g 71 5 w) 74 l (B (c * N + l))) 72 (c * 20 + l) (B (c * N + l))) else fX1_takeFrom_l36 2 K (nI k) (nI c) m (nI l) (nI (l + 1)) (sI (sI (sI g 71 5 w) 74 l (B (c * N + l))) 72 (c * 20 + l) (B (c * N + l)))) = fX1_takeFrom_l36 2 K (nI k) (nI c) m s'.1 (nI (l + 1)) s'.2 ∧ Core h s'.2 ∧ s'.2.1 71 3 = nI k ∧ s'.2.1 71 4 = nI N ∧ Fg (s'.2.1 71 5) (AS M N B c (l + 1)) ∧ TkD h s'.2 B N c ∧ (∀ j, j < l + 1 → s'.2.1 72 (c * 20 + j) = B (c * N + j)) ∧ LW (mX h) N (l + 1) (cpr B N c) s'.1 ∧ eqOn (l + 1) (s'.2.1 74) (cpr B N c) := fun w hfw => by
        have c1 : Core h (sI (sI (sI g 71 5 w) 74 l (B (c * N + l))) 72 (c * 20 + l) (B (c * N + l))) := ((cg.tr (Core.sR (a := 71) rfl)).tr (Core.sR (a := 74) rfl)).tr (Core.sR (a := 72) rfl)
        have r74 : (sI (sI (sI g 71 5 w) 74 l (B (c * N + l))) 72 (c * 20 + l) (B (c * N + l))).1 74 = upd (g.1 74) l (B (c * N + l)) := rfl
        have r72 : (sI (sI (sI g 71 5 w) 74 l (B (c * N + l))) 72 (c * 20 + l) (B (c * N + l))).1 72 = upd (g.1 72) (c * 20 + l) (B (c * N + l)) := rfl
        have r73 : (sI (sI (sI g 71 5 w) 74 l (B (c * N + l))) 72 (c * 20 + l) (B (c * N + l))).1 73 = g.1 73 := rfl
        have r3 : (sI (sI (sI g 71 5 w) 74 l (B (c * N + l))) 72 (c * 20 + l) (B (c * N + l))).1 71 3 = nI k := e3
        have r4 : (sI (sI (sI g 71 5 w) 74 l (B (c * N + l))) 72 (c * 20 + l) (B (c * N + l))).1 71 4 = nI N := e4
        have r5 : (sI (sI (sI g 71 5 w) 74 l (B (c * N + l))) 72 (c * 20 + l) (B (c * N + l))).1 71 5 = w := rfl
        generalize sI (sI (sI g 71 5 w) 74 l (B (c * N + l))) 72 (c * 20 + l) (B (c * N + l)) = g1 at c1 r74 r72 r73 r3 r4 r5 ⊢
        have q74 : eqOn (l + 1) (g1.1 74) (cpr B N c) := fun j hj => by
          rw [r74]
          by_cases e : j = l
          · rw [e, upd_at]; rfl
          · rw [upd_ne _ _ e]; exact e74 j (by omega)
        have q72 : ∀ j, j < l + 1 → g1.1 72 (c * 20 + j) = B (c * N + j) := fun j hj => by
          rw [r72]
          by_cases e : j = l
          · rw [e, upd_at]
          · rw [upd_ne _ _ (by omega)]; exact e72 j (by omega)
        have qD : TkD h g1 B N c := fun c' hc' => by
          rw [r72, r73]
          refine ⟨fun j hj => ?_, (hD c' hc').2⟩
          rw [upd_ne _ _ (by omega)]
          exact (hD c' hc').1 j hj
        have emd : fX9_made (nI l) 74 g1 = mX h (cpr B N c) l := by
          rw [made_eq (H.core c1).WX hl (by decide), mX_core c1]
          exact mX_ahead H.WX l hl _ _ (fun j hj => q74 j (by omega))
        rw [emd]
        by_cases e : B (c * N + l) = mX h (cpr B N c) l
        · rw [if_pos e]
          refine ⟨(w0, g1), rfl, c1, r3, r4, by rw [r5]; exact hfw, qD, q72, fun f hf => ?_, q74⟩
          rw [hw f hf]
          constructor
          · rintro ⟨j, a1, a2, a3⟩
            exact ⟨j, a1, by omega, a3⟩
          · rintro ⟨j, a1, a2, a3⟩
            refine ⟨j, a1, ?_, a3⟩
            by_cases ej : j = l
            · exact absurd (by rw [ej]; exact e) a3
            · omega
        · rw [if_neg e]
          refine ⟨(nI l, g1), rfl, c1, r3, r4, by rw [r5]; exact hfw, qD, q72, fun f hf => ?_, q74⟩
          constructor
          · intro a
            refine ⟨l, ?_, by omega, e⟩
            by_cases b : f < l
            · exact b
            · exact absurd a (nI_nlt (by omega) (by omega))
          · rintro ⟨j, a1, a2, a3⟩
            exact nI_lt (by omega) (by omega)
      have nAS : ∀ P : Prop, ¬ P → (AS M N B c (l + 1) → P) → Fg 0 (AS M N B c (l + 1)) := fun P h1 h2 => Or.inr ⟨rfl, fun q => h1 (h2 q)⟩
      unfold fX1_takeFrom_l36b
      rw [e4, if_pos (nI_lt hl (by omega)), ev]
      dsimp only [letT]
      rw [if_pos (Or.inl rfl), if_pos (Or.inr rfl), ep2, ep2, ep, ep, nI_1]
      rcases hf with ⟨f1, f2⟩ | ⟨f1, f2⟩
      · rw [if_neg (by rw [f1]; decide)]
        rcases clm_X (v := B (c * N + l)) Hg.eX hM.2 with ⟨k1, k2⟩ | ⟨k1, k2⟩
        · rw [if_neg (by rw [k2]; decide)]
          refine step 1 (Or.inl ⟨rfl, f2.1, fun j hj => ?_⟩)
          by_cases e : j = l
          · rw [e]; exact k1
          · exact f2.2 j (by omega)
        · rw [if_pos k2]
          exact step 0 (nAS _ k1 (fun q => q.2 l (by omega)))
      · rw [if_pos f1]
        exact step 0 (nAS _ f2 (fun q => ⟨q.1, fun j hj => q.2 j (by omega)⟩))) (fun m s hI => by
      show fX1_takeFrom_l36b 2 (fX1_takeFrom_l36 2 K (nI k) (nI c) m) K (nI k) (nI c) s.1 (nI N) s.2 = _
      unfold fX1_takeFrom_l36b
      rw [hI.2.2.1, if_neg (nI_nlt (Nat.le_refl _) (by omega))]) fuel0 0 (-1, g) (by omega) (by have := fuel_big; omega) ⟨cg, e3, e4, hf, hD, fun j hj => absurd hj (Nat.not_lt_zero _), fun f hf => ⟨fun a => absurd a (by
        intro a
        have : ¬ (nI f < 0) := nI_pos (by omega)
        exact this (Int32.lt_trans a (show (-1 : Int32) < 0 by decide))), fun ⟨j, _, a, _⟩ => absurd a (Nat.not_lt_zero _)⟩, fun j hj => absurd hj (Nat.not_lt_zero _)⟩
  exact ⟨s.1, s.2, hs, q.1, q.2.1, q.2.2.1, q.2.2.2.1, q.2.2.2.2.1, q.2.2.2.2.2.1, q.2.2.2.2.2.2.1⟩
