/-! ===== cancel: the class ===== -/
theorem itf_inv {σ : Type} {P : σ → Prop} {f : Nat → σ → σ} (hP : ∀ j s, P s → P (f j s)) : ∀ {n a : Nat} {s : σ}, P s → P (itf f a n s) := by
  intro n
  induction n with
  | zero => intro a s h; exact h
  | succ n ih => intro a s h; exact ih (hP _ _ h)
theorem itf_keep {σ : Type} {P : σ → Prop} {f : Nat → σ → σ} (hP : ∀ j s, P s → P (f j s)) {a k n : Nat} {s : σ} (hk : k ≤ n) (h : P (itf f a k s)) : P (itf f a n s) := by
  induction n with
  | zero => rw [Nat.le_zero.mp hk] at h; exact h
  | succ n ih =>
    by_cases e : k = n + 1
    · rw [← e]; exact h
    · rw [itf_last]
      exact hP _ _ (ih (by omega))
theorem adn_sm {t t' : Nat × Nat × Nat × Nat} {b : Bool} (s : CT) (h : s.2 = some t) : (adn s t' b).2 = some t := by
  unfold adn
  cases b
  · exact h
  · show some (s.2.getD t') = _
    rw [h]
    rfl
section
variable {m : Rw → Nat → Int32} {N M : Nat} {T : Rw} {t : Nat × Nat × Nat × Nat}
theorem ca3_ok {i v j k : Nat} {s : CT} (h : CTok s) : CTok (ca3 m N T i v j k s) := itf_inv (fun _ _ h => adn_ok h) h
theorem ca2_ok {i v k : Nat} {s : CT} (h : CTok s) : CTok (ca2 m N M T i v k s) := itf_inv (fun _ _ h => ca3_ok h) h
theorem ca1_ok {i k : Nat} {s : CT} (h : CTok s) : CTok (ca1 m N M T i k s) := itf_inv (fun _ _ h => ca2_ok h) h
theorem ca0_ok {k : Nat} : CTok (ca0 m N M T k) := itf_inv (fun _ _ h => ca1_ok h) ⟨fun _ => rfl, fun _ => rfl⟩
theorem ca3_sm {i v j k : Nat} {s : CT} (h : s.2 = some t) : (ca3 m N T i v j k s).2 = some t := itf_inv (P := fun s : CT => s.2 = some t) (fun _ s h => adn_sm s h) h
theorem ca2_sm {i v k : Nat} {s : CT} (h : s.2 = some t) : (ca2 m N M T i v k s).2 = some t := itf_inv (P := fun s : CT => s.2 = some t) (fun _ _ h => ca3_sm h) h
theorem ca1_sm {i k : Nat} {s : CT} (h : s.2 = some t) : (ca1 m N M T i k s).2 = some t := itf_inv (P := fun s : CT => s.2 = some t) (fun _ _ h => ca2_sm h) h
theorem ca3_le {i v j : Nat} {s : CT} : ∀ k, (ca3 m N T i v j k s).1 ≤ s.1 + k := by
  intro k
  induction k with
  | zero => exact Nat.le_refl _
  | succ k ih =>
    have st : ca3 m N T i v j (k + 1) s = adn (ca3 m N T i v j k s) (i, v, j, k) (q4 m N T i v j k) := by
      unfold ca3
      rw [itf_last, Nat.zero_add]
    rw [st]
    unfold adn
    cases q4 m N T i v j k
    · show (ca3 m N T i v j k s).1 ≤ _; omega
    · show (ca3 m N T i v j k s).1 + 1 ≤ _; omega
theorem ca2_le {i v : Nat} {s : CT} : ∀ k, (ca2 m N M T i v k s).1 ≤ s.1 + k * M := by
  intro k
  induction k with
  | zero => rw [Nat.zero_mul]; exact Nat.le_refl _
  | succ k ih =>
    have st : ca2 m N M T i v (k + 1) s = ca3 m N T i v (i + 1 + k) M (ca2 m N M T i v k s) := by
      unfold ca2
      rw [itf_last]
    rw [st, Nat.succ_mul]
    exact Nat.le_trans (ca3_le M) (by omega)
theorem ca1_le {i W : Nat} {s : CT} (hW : N * M ≤ W) : ∀ k, (ca1 m N M T i k s).1 ≤ s.1 + k * W := by
  intro k
  induction k with
  | zero => rw [Nat.zero_mul]; exact Nat.le_refl _
  | succ k ih =>
    have st : ca1 m N M T i (k + 1) s = ca2 m N M T i k (N - (i + 1)) (ca1 m N M T i k s) := by
      unfold ca1
      rw [itf_last, Nat.zero_add]
    rw [st, Nat.succ_mul]
    have h2 : (N - (i + 1)) * M ≤ N * M := Nat.mul_le_mul_right M (by omega)
    have h3 := ca2_le (m := m) (N := N) (M := M) (T := T) (i := i) (v := k) (s := ca1 m N M T i k s) (N - (i + 1))
    omega
theorem ca0_le {W V : Nat} (hW : N * M ≤ W) (hV : M * W ≤ V) : ∀ k, (ca0 m N M T k).1 ≤ k * V := by
  intro k
  induction k with
  | zero => exact Nat.zero_le _
  | succ k ih =>
    have st : ca0 m N M T (k + 1) = ca1 m N M T k M (ca0 m N M T k) := by
      unfold ca0
      rw [itf_last, Nat.zero_add]
    rw [st, Nat.succ_mul]
    have h3 := ca1_le (m := m) (T := T) (i := k) (s := ca0 m N M T k) hW M
    omega
/-- no slip that does not show is mended -/
theorem ca2_id {i v : Nat} (hsh : slp m N i (nI v) T (N - 1) = T (N - 1)) : ∀ (k : Nat) (s : CT), ca2 m N M T i v k s = s := by
  have h3 : ∀ j s, ca3 m N T i v j M s = s := by
    intro j s
    unfold ca3
    generalize M = q
    induction q with
    | zero => rfl
    | succ q ih =>
      rw [itf_last, ih]
      unfold adn q4
      simp [hsh]
  intro k s
  unfold ca2
  induction k with
  | zero => rfl
  | succ k ih => rw [itf_last, ih, h3]
end
theorem itf_cong {σ : Type} {f g : Nat → σ → σ} : ∀ {n a : Nat} {s : σ}, (∀ j s, a ≤ j → j < a + n → f j s = g j s) → itf f a n s = itf g a n s := by
  intro n
  induction n with
  | zero => intro a s _; rfl
  | succ n ih =>
    intro a s h
    show itf f (a + 1) n (f a s) = itf g (a + 1) n (g a s)
    rw [h a s (Nat.le_refl _) (by omega)]
    exact ih (fun j s h1 h2 => h j s (by omega) (by omega))
theorem ca0_cong {m m' : Rw → Nat → Int32} {N M : Nat} {T T' : Rw} (hm : ∀ i, i < N → ∀ r r', eqOn i r r' → m r i = m' r' i) (hT : eqOn N T T') (h0 : 0 < N) : ca0 m N M T N = ca0 m' N M T' N := by
  unfold ca0
  refine itf_cong (fun i s _ hi => ?_)
  unfold ca1
  refine itf_cong (fun v s _ hv => ?_)
  unfold ca2
  refine itf_cong (fun j s h1 hj => ?_)
  unfold ca3
  refine itf_cong (fun w s _ hw => ?_)
  have e1 : eqOn N (slp m N i (nI v) T) (slp m' N i (nI v) T') := slp_cong hm (by omega) hT
  have e2 : eqOn N (slp m N j (nI w) (slp m N i (nI v) T)) (slp m' N j (nI w) (slp m' N i (nI v) T')) := slp_cong hm (by omega) e1
  have : q4 m N T i v j w = q4 m' N T' i v j w := by
    unfold q4
    rw [e1 (N - 1) (by omega), e2 (N - 1) (by omega), e1 j (by omega), hT (N - 1) (by omega)]
  rw [this]
/-- the class's row holds the state: p = 0 counts, else the first -/
def EncX (p : Nat) (g : AH) (s : CT) : Prop := CTok s ∧ (p = 0 → g.1 57 0 = nI s.1) ∧ (p ≠ 0 → (s.2 = none → g.1 57 0 = 0) ∧ ∀ t, s.2 = some t → g.1 57 0 = 1 ∧ g.1 57 1 = nI t.1 ∧ g.1 57 2 = nI t.2.1 ∧ g.1 57 3 = nI t.2.2.1 ∧ g.1 57 4 = nI t.2.2.2)
theorem EncX.of {p : Nat} {g g' : AH} {s : CT} (e : g'.1 57 = g.1 57) (h : EncX p g s) : EncX p g' s := by
  unfold EncX
  rw [e]
  exact h
theorem EncX.later {p : Nat} {g : AH} {s s' : CT} {t : Nat × Nat × Nat × Nat} (h : EncX p g s) (hp : p ≠ 0) (h1 : s.2 = some t) (h2 : s'.2 = some t) (h3 : CTok s') : EncX p g s' :=
  ⟨h3, fun e => absurd e hp, fun _ => ⟨fun q => by rw [h2] at q; (cases q), fun t' ht' => by
    have : t = t' := by rw [h2] at ht'; exact Option.some.inj ht'
    subst this
    exact (h.2.2 hp).2 t h1⟩⟩
theorem btw_core {h g : AH} {N j l : Nat} (c : Core h g) : btw g N j l = btw h N j l := by
  unfold btw
  rw [c.C 13 (by decide)]
theorem lx42 {N M x i v j p : Nat} {h g : AH} {T S1 : Rw} {s : CT} {Bm e : Int32} {K : AH → Option AH} (H : ScN N M x h) (hij : i < j) (hj : j < N) (he : e = if p = 0 then 2147483647 else 1) (hB : s.1 + M ≤ 1000000) (c : Core h g) (hBm : ∀ l, l < N → bt Bm l = btw h N j l) (e54 : g.1 54 = T) (eS : S1 = slp (mX h) N i (nI v) T) (e55 : eqOn N (g.1 55) S1) (e56 : eqOn N (g.1 56) S1) (hs : EncX p g s) (hsh : ¬ S1 (N - 1) = T (N - 1)) :
    ∃ g', fX0_trySeconds_l42 K (nI i) (nI v) e (nI j) Bm fuel0 0 g = K g' ∧ Core h g' ∧ g'.1 54 = T ∧ eqOn N (g'.1 55) S1 ∧ EncX p g' (ca3 (mX h) N T i v j M s) := by
  have hN := H.N
  have hM := H.M97
  have a0 : ∀ h, fX11_at 57 (0 : Int32) h = h.1 57 0 := fun h => at_in (i := 0) (by decide)
  have p0 : ∀ v h, fX11_put 57 (0 : Int32) v h = sI h 57 0 v := fun v h => put_in (i := 0) (by decide)
  have p1 : ∀ v h, fX11_put 57 (1 : Int32) v h = sI h 57 1 v := fun v h => put_in (i := 1) (by decide)
  have p2 : ∀ v h, fX11_put 57 (2 : Int32) v h = sI h 57 2 v := fun v h => put_in (i := 2) (by decide)
  have p3 : ∀ v h, fX11_put 57 (3 : Int32) v h = sI h 57 3 v := fun v h => put_in (i := 3) (by decide)
  have p4 : ∀ v h, fX11_put 57 (4 : Int32) v h = sI h 57 4 v := fun v h => put_in (i := 4) (by decide)
  have hS : ∀ l, j < l → l < N → S1 l = mX h S1 l := fun l h1 h2 => by
    rw [eS]
    unfold slp
    exact wk_in' (mX_ahead H.WX) (by omega) (by omega) (by omega)
  obtain ⟨g', hg, hI⟩ := for_exx (F := fun m xx g => fX0_trySeconds_l42 K (nI i) (nI v) e (nI j) Bm m xx g) K M (by omega) (fun k g => Core h g ∧ g.1 54 = T ∧ eqOn N (g.1 55) S1 ∧ (∀ l, l < N → l ≠ j → btw h N j l = false → g.1 56 l = S1 l) ∧ EncX p g (ca3 (mX h) N T i v j k s)) (fun m k g hk hI => by
      obtain ⟨c, e54, e55, e56, hs⟩ := hI
      have Hg := H.core c
      show (∃ s', fX0_trySeconds_l42b (fX0_trySeconds_l42 K (nI i) (nI v) e (nI j) Bm m) K (nI i) (nI v) e (nI j) Bm (nI k) g = _ ∧ _) ∨ (∃ s', fX0_trySeconds_l42b (fX0_trySeconds_l42 K (nI i) (nI v) e (nI j) Bm m) K (nI i) (nI v) e (nI j) Bm (nI k) g = _ ∧ _)
      unfold fX0_trySeconds_l42b
      have hle := ca3_le (m := mX h) (N := N) (T := T) (i := i) (v := v) (j := j) (s := s) k
      rw [Hg.eX, if_pos (nI_lt hk (by omega)), a0]
      by_cases hlt : g.1 57 0 < e
      · left
        rw [if_pos hlt, at_in (show j < aln 55 by show _ < 20; omega), e55 j hj, nI_1]
        have st : ca3 (mX h) N T i v j (k + 1) s = adn (ca3 (mX h) N T i v j k s) (i, v, j, k) (q4 (mX h) N T i v j k) := by
          unfold ca3
          rw [itf_last, Nat.zero_add]
        rw [st]
        generalize hu : ca3 (mX h) N T i v j k s = u at hs hle
        by_cases a1 : nI k = S1 j
        · have hq : q4 (mX h) N T i v j k = false := by unfold q4; simp [a1, ← eS]
          rw [if_pos a1, hq]
          exact ⟨g, rfl, c, e54, e55, e56, hs⟩
        · rw [if_neg a1]
          obtain ⟨r, er, qr⟩ := cancels_eq (w := nI k) H c hj hBm (congrFun e54 _) hS e56
          rw [er, ob]
          have c3 : Core h (sR g 56 r) := c.tr (Core.sR rfl)
          have e54' : (sR g 56 r).1 54 = T := by rw [sR_ne _ _ (by decide), e54]
          have e55' : eqOn N ((sR g 56 r).1 55) S1 := by rw [sR_ne _ _ (by decide)]; exact e55
          have e57' : (sR g 56 r).1 57 = g.1 57 := sR_ne _ _ (by decide)
          have e56' : ∀ l, l < N → l ≠ j → btw h N j l = false → (sR g 56 r).1 56 l = S1 l := by rw [sR_at]; exact qr
          have hs' : EncX p (sR g 56 r) u := hs.of e57'
          dsimp only
          generalize sR g 56 r = g1 at c3 e54' e55' e57' e56' hs'
          by_cases a2 : slp (mX h) N j (nI k) S1 (N - 1) = T (N - 1)
          · have hq : q4 (mX h) N T i v j k = true := by
              unfold q4
              rw [← eS]
              simp [a1, a2, hsh]
            rw [if_pos a2, hq, if_neg (by decide), a0, p0]
            dsimp only [letT]
            rw [p1, p2, p3, p4]
            refine ⟨_, rfl, ?_, e54', e55', e56', ?_⟩
            · exact ((((c3.tr (Core.sI rfl)).tr (Core.sI rfl)).tr (Core.sI rfl)).tr (Core.sI rfl)).tr (Core.sI rfl)
            · refine ⟨adn_ok hs.1, fun hp => ?_, fun hp => ⟨fun q => ?_, fun t ht => ?_⟩⟩
              · show g1.1 57 0 + 1 = nI (u.1 + 1)
                rw [hs'.2.1 hp]
                exact nI_1 _
              · cases q
              · have hno : u.2 = none := by
                  cases hu2 : u.2 with
                  | none => rfl
                  | some t' =>
                    have := ((hs.2.2 hp).2 t' hu2).1
                    rw [this, he, if_neg hp] at hlt
                    exact absurd hlt (by decide)
                have ht2 : (adn u (i, v, j, k) true).2 = some (u.2.getD (i, v, j, k)) := rfl
                rw [ht2, hno] at ht
                have : t = (i, v, j, k) := (Option.some.inj ht).symm
                subst this
                refine ⟨?_, rfl, rfl, rfl, rfl⟩
                show g1.1 57 0 + 1 = 1
                rw [(hs'.2.2 hp).1 hno]
                rfl
          · have hq : q4 (mX h) N T i v j k = false := by
              unfold q4
              rw [← eS]
              simp [a2]
            rw [if_neg a2, hq, if_pos rfl]
            exact ⟨g1, rfl, c3, e54', e55', e56', hs'⟩
      · right
        rw [if_neg hlt]
        refine ⟨g, rfl, c, e54, e55, e56, ?_⟩
        by_cases hp : p = 0
        · rw [hs.2.1 hp, he, if_pos hp] at hlt
          exact absurd (show nI _ < (2147483647 : Int32) from nI_lt (b := 2147483647) (by omega) (by decide)) hlt
        · cases hu2 : (ca3 (mX h) N T i v j k s).2 with
          | none =>
            rw [(hs.2.2 hp).1 hu2, he, if_neg hp] at hlt
            exact absurd (by decide) hlt
          | some t =>
            refine hs.later hp hu2 ?_ (itf_keep (fun _ _ h => adn_ok h) (Nat.le_of_lt hk) hs.1)
            exact itf_keep (P := fun s : CT => s.2 = some t) (fun _ s h => adn_sm s h) (Nat.le_of_lt hk) hu2) (fun m g hI => by
      show fX0_trySeconds_l42b (fX0_trySeconds_l42 K (nI i) (nI v) e (nI j) Bm m) K (nI i) (nI v) e (nI j) Bm (nI M) g = _
      unfold fX0_trySeconds_l42b
      rw [(H.core hI.1).eX, if_neg (nI_nlt (Nat.le_refl _) (by omega))]) fuel0 0 g (by omega) (by have := fuel_big; omega) ⟨c, e54, e55, fun l hl _ _ => e56 l hl, hs⟩
  exact ⟨g', hg, hI.1, hI.2.1, hI.2.2.1, hI.2.2.2.2⟩
theorem trySeconds_eq {N M x i v p : Nat} {h g : AH} {T S1 : Rw} {s : CT} {e : Int32} (H : ScN N M x h) (hi : i < N) (he : e = if p = 0 then 2147483647 else 1) (hB : s.1 + N * M ≤ 1000000) (c : Core h g) (e54 : g.1 54 = T) (eS : S1 = slp (mX h) N i (nI v) T) (e55 : eqOn N (g.1 55) S1) (hs : EncX p g s) (hsh : ¬ S1 (N - 1) = T (N - 1)) :
    ∃ g', fX0_trySeconds (nI i) (nI v) e g = some g' ∧ Core h g' ∧ g'.1 54 = T ∧ EncX p g' (ca2 (mX h) N M T i v (N - (i + 1)) s) := by
  have hN := H.N
  unfold fX0_trySeconds
  rw [nI_1]
  dsimp only [letT]
  obtain ⟨g', hg, hI⟩ := for_ex (F := fun m xx g => fX0_trySeconds_l5 (nI i) (nI v) e m xx g) (fun g => some g) N (by omega) (fun k g => i < k ∧ Core h g ∧ g.1 54 = T ∧ eqOn N (g.1 55) S1 ∧ EncX p g (ca2 (mX h) N M T i v (k - (i + 1)) s)) (fun m k g hk hI => by
      obtain ⟨hik, c, e54, e55, hs⟩ := hI
      have Hg := H.core c
      show ∃ s', fX0_trySeconds_l5b (fX0_trySeconds_l5 (nI i) (nI v) e m) (nI i) (nI v) e (nI k) g = _ ∧ _
      unfold fX0_trySeconds_l5b
      obtain ⟨Bm, eb, qb⟩ := between_eq Hg hk
      obtain ⟨r, e1, q1⟩ := copyRow_ex (a := 55) (b := 56) (n := 20) (h := g) (by decide) rfl rfl
      have hle := ca2_le (m := mX h) (N := N) (M := M) (T := T) (i := i) (v := v) (s := s) (k - (i + 1))
      have hmul : (k - (i + 1)) * M + M ≤ N * M := by
        have : (k - (i + 1) + 1) * M ≤ N * M := Nat.mul_le_mul_right M (by omega)
        rwa [Nat.succ_mul] at this
      have c3 : Core h (sR g 56 r) := c.tr (Core.sR rfl)
      have e54' : (sR g 56 r).1 54 = T := by rw [sR_ne _ _ (by decide), e54]
      have e55' : eqOn N ((sR g 56 r).1 55) S1 := by rw [sR_ne _ _ (by decide)]; exact e55
      have e56' : eqOn N ((sR g 56 r).1 56) S1 := by rw [sR_at]; exact (q1.le hN).tr e55
      have hs' : EncX p (sR g 56 r) (ca2 (mX h) N M T i v (k - (i + 1)) s) := hs.of (sR_ne _ _ (by decide))
      rw [Hg.sX, if_pos (nI_lt hk (by omega)), eb, ob, e1, ob, nI_1]
      obtain ⟨g', a1, a2, a3, a4, a5⟩ := lx42 (K := fun g18 => fX0_trySeconds_l5 (nI i) (nI v) e m (nI (k + 1)) g18) (Bm := Bm) H hik hk he (by omega) c3 (fun l hl => (qb l hl).trans (btw_core c)) e54' eS e55' e56' hs' hsh
      have st : ca2 (mX h) N M T i v (k + 1 - (i + 1)) s = ca3 (mX h) N T i v k M (ca2 (mX h) N M T i v (k - (i + 1)) s) := by
        unfold ca2
        rw [show k + 1 - (i + 1) = (k - (i + 1)) + 1 by omega, itf_last, show i + 1 + (k - (i + 1)) = k by omega]
      rw [a1, st]
      exact ⟨g', rfl, by omega, a2, a3, a4, a5⟩) (fun m g hI => by
      show fX0_trySeconds_l5b (fX0_trySeconds_l5 (nI i) (nI v) e m) (nI i) (nI v) e (nI N) g = _
      unfold fX0_trySeconds_l5b
      rw [(H.core hI.2.1).sX, if_neg (nI_nlt (Nat.le_refl _) (by omega))]) fuel0 (i + 1) g (by omega) (by have := fuel_big; omega) ⟨by omega, c, e54, e55, by rw [Nat.sub_self]; exact hs⟩
  exact ⟨g', hg, hI.2.1, hI.2.2.1, hI.2.2.2.2⟩
