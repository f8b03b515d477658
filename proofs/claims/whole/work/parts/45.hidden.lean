/-! ===== hidden ===== -/
/-- how many of the hearers read line i with claim v -/
def tot (h : AH) (N M n : Nat) (L : Nat → Int32) (C : Nat → Rw → Int32) (P : Int32) (c : Nat) : Nat := ct (fun he => bt P he && rdb n L C (ffc h N M (c / M) (nI (c % M)) (nI he))) 10
def hst (M : Nat) (T : Rw) (t : Nat → Nat) (c : Nat) (o : Option Nat) : Option Nat := if nI (c % M) = T (c / M) then o else if o.elim true (fun b => decide (t c < t b)) then some c else o
def hbest (M : Nat) (T : Rw) (t : Nat → Nat) (k : Nat) : Option Nat := itf (hst M T t) 0 k none
theorem hbest_succ {M : Nat} {T : Rw} {t : Nat → Nat} {k : Nat} : hbest M T t (k + 1) = hst M T t k (hbest M T t k) := by
  unfold hbest
  rw [itf_last, Nat.zero_add]
theorem hbest_lt {M : Nat} {T : Rw} {t : Nat → Nat} : ∀ {k b : Nat}, hbest M T t k = some b → b < k := by
  intro k
  induction k with
  | zero => intro b h; cases h
  | succ k ih =>
    intro b h
    rw [hbest_succ] at h
    unfold hst at h
    split at h
    · have := ih h; omega
    · split at h
      · have := Option.some.inj h; omega
      · have := ih h; omega
theorem hbest_zero {M : Nat} {T : Rw} {t : Nat → Nat} {k n b : Nat} (hk : k ≤ n) (h : hbest M T t k = some b) (hz : t b = 0) : hbest M T t n = some b :=
  itf_keep (P := fun o => o = some b) (fun c o ho => by
    unfold hst
    rw [ho]
    split
    · rfl
    · have : ((some b).elim true (fun b => decide (t c < t b))) = false := by
        show decide (t c < t b) = false
        rw [hz]
        simp
      rw [this]
      rfl) hk h
theorem tot_le {h : AH} {N M n : Nat} {L : Nat → Int32} {C : Nat → Rw → Int32} {P : Int32} {c : Nat} : tot h N M n L C P c ≤ 10 := ct_le _ 10
theorem findersOf_eq {N M x n i v lim : Nat} {h g : AH} {L : Nat → Int32} {C V : Nat → Rw → Int32} {P : Int32} (H : ScN N M x h) (X : Lx h n L C V) (c : Core h g) (hi : i < N) (hv : v < M) (hlim : lim ≤ 11) (h0 : 0 < lim) : ∃ g', fX11_findersOf (nI i) (nI v) P (nI lim) g = some (nI (min (tot h N M n L C P (i * M + v)) lim), g') ∧ FX g g' := by
  obtain ⟨d1, d2⟩ := code_dm (i := i) hv
  have hcc : ∀ k, ct (fun he => bt P he && rdb n L C (ffc h N M ((i * M + v) / M) (nI ((i * M + v) % M)) (nI he))) k = ct (fun he => bt P he && rdb n L C (ffc h N M i (nI v) (nI he))) k := fun k => by rw [d1, d2]
  unfold tot
  rw [hcc]
  generalize hp : (fun he : Nat => bt P he && rdb n L C (ffc h N M i (nI v) (nI he))) = p
  have mono : ∀ {a b : Nat}, a ≤ b → ct p a ≤ ct p b := fun {a b} hab => by
    induction b with
    | zero => rw [Nat.le_zero.mp hab]; exact Nat.le_refl _
    | succ b ih =>
      by_cases e : a = b + 1
      · rw [e]; exact Nat.le_refl _
      · rw [ct_succ]; have := ih (by omega); omega
  unfold fX11_findersOf
  obtain ⟨s, e, es, fx⟩ := for_exx (F := fun m xx (s : Int32 × AH) => fX11_findersOf_l6 (nI i) (nI v) P (nI lim) m s.1 xx s.2) (fun s => some (s.1, s.2)) 10 (by decide) (fun k s => s.1 = nI (min (ct p k) lim) ∧ FX g s.2) (fun m k s hk hI => by
      obtain ⟨a, g'⟩ := s
      obtain ⟨ea, fx⟩ := hI
      dsimp only at ea fx
      have cg := c.tr fx.core
      show (∃ s', fX11_findersOf_l6b (fX11_findersOf_l6 (nI i) (nI v) P (nI lim) m) (nI i) (nI v) P (nI lim) a (nI k) g' = _ ∧ _) ∨ (∃ s', fX11_findersOf_l6b (fX11_findersOf_l6 (nI i) (nI v) P (nI lim) m) (nI i) (nI v) P (nI lim) a (nI k) g' = _ ∧ _)
      unfold fX11_findersOf_l6b
      have hck := ct_le p k
      obtain ⟨g1, e1, f1, q1⟩ := lookAt_eq (cl := nI v) (he := nI k) H cg hi
      obtain ⟨g2, e2, f2⟩ := isRead_eq X (cg.tr f1.core) q1
      rw [if_pos (show nI k < 10 from nI_lt (b := 10) hk (by decide)), isIn_bt _ (show k < 32 by omega), ea, nI_1]
      by_cases hlt : ct p k < lim
      · left
        rw [Nat.min_eq_left (by omega), if_pos (nI_lt hlt (by omega))]
        dsimp only [letT]
        rw [e1, e2, ob]
        dsimp only
        have epk : p k = (bt P k && rdb n L C (ffc h N M i (nI v) (nI k))) := by rw [← hp]
        cases hb : bt P k with
        | false =>
          rw [if_pos ite_f0]
          refine ⟨(nI (ct p k), g'), rfl, ?_, fx⟩
          rw [ct_succ, epk, hb]
          show nI (ct p k) = nI (min (ct p k + 0) lim)
          rw [Nat.add_zero, Nat.min_eq_left (by omega)]
        | true =>
          rw [if_neg ite_t0]
          cases hr : rdb n L C (ffc h N M i (nI v) (nI k)) with
          | false =>
            rw [if_pos ite_f0]
            refine ⟨(nI (ct p k) + 0, g2), rfl, ?_, (fx.tr f1).tr f2.1⟩
            rw [ct_succ, epk, hb, hr]
            show nI (ct p k) + 0 = nI (min (ct p k + 0) lim)
            rw [Nat.add_zero, Nat.min_eq_left (by omega), Int32.add_zero]
          | true =>
            rw [if_neg ite_t0]
            refine ⟨(nI (ct p k) + 1, g2), rfl, ?_, (fx.tr f1).tr f2.1⟩
            rw [ct_succ, epk, hb, hr]
            show nI (ct p k) + 1 = nI (min (ct p k + 1) lim)
            rw [Nat.min_eq_left (by omega)]
            exact nI_1 _
      · right
        rw [Nat.min_eq_right (by omega), if_neg (nI_nlt (Nat.le_refl _) (by omega))]
        refine ⟨(nI lim, g'), rfl, ?_, fx⟩
        have := mono (show k ≤ 10 by omega)
        rw [Nat.min_eq_right (by omega)]) (fun m s hI => by
      show fX11_findersOf_l6b (fX11_findersOf_l6 (nI i) (nI v) P (nI lim) m) (nI i) (nI v) P (nI lim) s.1 (nI 10) s.2 = _
      unfold fX11_findersOf_l6b
      rw [if_neg (by decide)]) fuel0 0 (0, g) (by omega) (by have := fuel_big; omega) ⟨by show (0 : Int32) = nI (min 0 lim); rw [Nat.zero_min]; rfl, FX.rf⟩
  refine ⟨s.2, Eq.trans e ?_, fx⟩
  rw [es]
theorem findsOf_eq {N M x n i v : Nat} {h g : AH} {L : Nat → Int32} {C V : Nat → Rw → Int32} {P : Int32} (H : ScN N M x h) (X : Lx h n L C V) (c : Core h g) (hi : i < N) (hv : v < M) : ∃ g', fX12_findsOf P (nI i) (nI v) g = some (nI (tot h N M n L C P (i * M + v)), g') ∧ FM g g' := by
  obtain ⟨d1, d2⟩ := code_dm (i := i) hv
  have hcc : ∀ k, ct (fun he => bt P he && rdb n L C (ffc h N M ((i * M + v) / M) (nI ((i * M + v) % M)) (nI he))) k = ct (fun he => bt P he && rdb n L C (ffc h N M i (nI v) (nI he))) k := fun k => by rw [d1, d2]
  unfold tot
  rw [hcc]
  generalize hp : (fun he : Nat => bt P he && rdb n L C (ffc h N M i (nI v) (nI he))) = p
  unfold fX12_findsOf
  obtain ⟨s, e, es, fx⟩ := for_ex (F := fun m xx (s : Int32 × AH) => fX12_findsOf_l6 P (nI i) (nI v) m s.1 xx s.2) (fun s => some (s.1, s.2)) 10 (by decide) (fun k s => s.1 = nI (ct p k) ∧ FM g s.2) (fun m k s hk hI => by
      obtain ⟨a, g'⟩ := s
      obtain ⟨ea, fx⟩ := hI
      dsimp only at ea fx
      have cg := c.tr fx.core
      show ∃ s', fX12_findsOf_l6b (fX12_findsOf_l6 P (nI i) (nI v) m) P (nI i) (nI v) a (nI k) g' = _ ∧ _
      unfold fX12_findsOf_l6b
      obtain ⟨g2, e2, f2⟩ := readsIt_eq (cl := nI v) (he := nI k) H X cg hi
      rw [if_pos (show nI k < 10 from nI_lt (b := 10) hk (by decide)), has_bt _ (show k < 32 by omega), ea, e2, ob, nI_1]
      dsimp only [letT]
      have epk : p k = (bt P k && rdb n L C (ffc h N M i (nI v) (nI k))) := by rw [← hp]
      cases hb : bt P k with
      | false =>
        rw [if_pos ite_f0]
        refine ⟨(nI (ct p k), g'), rfl, ?_, fx⟩
        rw [ct_succ, epk, hb]
        rfl
      | true =>
        rw [if_neg ite_t0]
        cases hr : rdb n L C (ffc h N M i (nI v) (nI k)) with
        | false =>
          rw [if_pos ite_f0]
          refine ⟨(nI (ct p k), g2), rfl, ?_, fx.tr f2⟩
          rw [ct_succ, epk, hb, hr]
          rfl
        | true =>
          rw [if_neg ite_t0]
          refine ⟨(nI (ct p k) + 1, g2), rfl, ?_, fx.tr f2⟩
          rw [ct_succ, epk, hb, hr]
          exact nI_1 _) (fun m s hI => by
      show fX12_findsOf_l6b (fX12_findsOf_l6 P (nI i) (nI v) m) P (nI i) (nI v) s.1 (nI 10) s.2 = _
      unfold fX12_findsOf_l6b
      rw [if_neg (by decide)]) fuel0 0 (0, g) (by omega) (by have := fuel_big; omega) ⟨rfl, FM.rf⟩
  refine ⟨s.2, Eq.trans e ?_, fx⟩
  rw [es]
/-- a law whose r clauses do not ask for the claim reads all claims alike -/
theorem tot_alike {N M n i v v' : Nat} {h : AH} {L : Nat → Int32} {C V : Nat → Rw → Int32} {P : Int32} (X : Lx h n L C V) (ha : h.1 42 1 = 0) (hv : v < M) (hv' : v' < M) : tot h N M n L C P (i * M + v) = tot h N M n L C P (i * M + v') := by
  obtain ⟨d1, d2⟩ := code_dm (i := i) hv
  obtain ⟨d3, d4⟩ := code_dm (i := i) hv'
  unfold tot
  rw [d1, d2, d3, d4]
  refine ct_cong (fun he _ => ?_)
  have ef : ∀ a : Int32, ffc h N M i a (nI he) = upd (ffc h N M i 0 (nI he)) 2 a := fun a => by
    funext j
    by_cases e : j = 2
    · rw [e]; rfl
    · rw [upd_ne _ _ e]
      unfold ffc
      simp [e]
  have : ∀ a : Int32, rdb n L C (ffc h N M i a (nI he)) = rdb n L C (ffc h N M i 0 (nI he)) := fun a => by
    unfold rdb
    rw [fst_cong (fun q _ hq => ?_)]
    unfold rdQ
    by_cases l : L q = 114
    · rw [ef a, (X.2.2.2.2 q (by omega)).2.2.2.2.1 l ha]
    · simp [l]
  rw [this (nI v), this (nI v')]
