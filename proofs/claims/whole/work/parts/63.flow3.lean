/-! ===== the cut nearest to the one is the least ===== -/
section Near
variable {hb : Nat → Nat → Bool} {s N : Nat} {told R : Nat → Bool} {a : Nat → Nat → Bool} {φ : Nat → Nat → Int} {val : Int}
/-- R is what is reached from the one -/
def Rch (s : Nat) (a : Nat → Nat → Bool) (R : Nat → Bool) : Prop := R (20 + s) = true ∧ (∀ u v, u < 41 → v < 41 → R u = true → a u v = true → R v = true) ∧ ∀ W : Nat → Bool, W (20 + s) = true → (∀ u v, u < 41 → v < 41 → W u = true → a u v = true → W v = true) → ∀ u, u < 41 → R u = true → W u = true
def cutR (R : Nat → Bool) (v : Nat) : Bool := decide (v < 20) && (R v && !R (20 + v))
theorem Rch.isF (g : Gr hb s N told) (f : Flw s N (fre hb s N told) told hb a φ val 40) (r : Rch s a R) {v : Nat} (hv : v < 20) (h : R v = true) : fre hb s N told v = true := by
  have := r.2.2 (fun u => if u < 20 then fre hb s N told u else true) (by rw [if_neg (by omega)]) (fun u v hu hv h1 h2 => by
    by_cases lt : v < 20
    · rw [if_pos lt]
      by_cases e1 : un (fre hb s N told) u v = true
      · have := un_iff.mp e1; omega
      · by_cases e2 : un (fre hb s N told) v u = true
        · exact (un_iff.mp e2).2.2
        · by_cases e3 : nf s N (fre hb s N told) told hb u v = true
          · obtain ⟨-, -, -, q⟩ := nf_iff.mp e3
            rcases q with ⟨-, q, -⟩ | ⟨q, -⟩
            · exact q
            · omega
          · by_cases e4 : nf s N (fre hb s N told) told hb v u = true
            · have := (nf_iff.mp e4).1; omega
            · have := (f.2.2.2.1 u v hu hv (by simpa using e1) (by simpa using e2) (by simpa using e3) (by simpa using e4)).2
              rw [h2] at this
              cases this
    · rw [if_neg lt]) v (by omega) h
  rw [if_pos hv] at this
  exact this
theorem cutR_fre (g : Gr hb s N told) (f : Flw s N (fre hb s N told) told hb a φ val 40) (r : Rch s a R) : ∀ v, cutR R v = true → fre hb s N told v = true := by
  intro v h
  unfold cutR at h
  simp only [Bool.and_eq_true, decide_eq_true_eq] at h
  exact r.isF g f h.1 h.2.1
theorem cutR_val (g : Gr hb s N told) (f : Flw s N (fre hb s N told) told hb a φ val 40) (r : Rch s a R) (e40 : R 40 = false) : val = (ct (cutR R) N : Int) := by
  have hN := g.2.1
  rw [f.exact g.net r.1 e40 r.2.1]
  have e := ct_more (p := cutR R) (n := N) (fun i hi => by
    cases q : cutR R i with
    | false => rfl
    | true => have := (fre_iff.mp (cutR_fre g f r i q)).1; omega) (20 - N)
  rw [show N + (20 - N) = 20 by omega] at e
  rw [← e]
  congr 1
  refine ct_cong (fun i hi => ?_)
  unfold cutR
  rw [Nat.add_comm i 20]
  cases h : R i with
  | false => simp
  | true => rw [r.isF g f hi h]; simp [hi]
/-- a step from the reached side -/
theorem step_R (g : Gr hb s N told) (f : Flw s N (fre hb s N told) told hb a φ val 40) (r : Rch s a R) (e40 : R 40 = false) {j k : Nat} (hj : j < N) (hkj : k < j) (hh : hb j k = true) (hk : k = s ∨ ((stn hb s (fun _ => false) N).testBit k = true ∧ told k = false)) (hR : R (20 + k) = true) : told j = false ∧ fre hb s N told j = true ∧ R j = true := by
  have hN := g.2.1
  have kf : 20 + k = 20 + s ∨ fre hb s N told (20 + k - 20) = true := by
    rw [show 20 + k - 20 = k by omega]
    rcases hk with e | ⟨e1, e2⟩
    · exact Or.inl (by omega)
    · exact Or.inr (fre_iff.mpr ⟨by omega, e1, e2⟩)
  have nt : told j = false := by
    cases q : told j with
    | false => rfl
    | true =>
      have n : nf s N (fre hb s N told) told hb (20 + k) 40 = true := nf_iff.mpr ⟨by omega, by omega, kf, Or.inr ⟨rfl, by
        rw [show 20 + k - 20 = k by omega]
        unfold toE
        exact anyb_iff.mpr ⟨j, hj, by rw [q, hh]; rfl⟩⟩⟩
      have := r.2.1 (20 + k) 40 (by omega) (by omega) hR (f.2.2.1 _ _ (by omega) (by omega) n).1
      rw [e40] at this
      cases this
  have sk : s ≤ k := by
    rcases hk with e | ⟨e, -⟩
    · omega
    · have := ((stn_iff (stn_top e)).mp e).1
      omega
  have ff : fre hb s N told j = true := by
    refine fre_iff.mpr ⟨hj, (stn_iff hj).mpr ⟨by omega, rfl, k, hkj, hh, ?_⟩, nt⟩
    rcases hk with e | ⟨e, -⟩
    · exact Or.inl e
    · exact Or.inr e
  have n : nf s N (fre hb s N told) told hb (20 + k) j = true := nf_iff.mpr ⟨by omega, by omega, kf, Or.inl ⟨by omega, ff, by rw [show 20 + k - 20 = k by omega]; exact hh⟩⟩
  exact ⟨nt, ff, r.2.1 (20 + k) j (by omega) (by omega) hR (f.2.2.1 _ _ (by omega) (by omega) n).1⟩
theorem cutR_sep (g : Gr hb s N told) (f : Flw s N (fre hb s N told) told hb a φ val 40) (r : Rch s a R) (e40 : R 40 = false) : Sep hb s N told (cutR R) := by
  have hN := g.2.1
  have key : ∀ j, (stn hb s (cutR R) N).testBit j = true → told j = false ∧ R (20 + j) = true := by
    intro j
    induction j using Nat.strongRecOn with
    | ind j ih =>
      intro h
      have hj := stn_top h
      obtain ⟨h1, h2, k, h3, h4, h5⟩ := (stn_iff hj).mp h
      have hk : k = s ∨ ((stn hb s (fun _ => false) N).testBit k = true ∧ told k = false) := by
        rcases h5 with e | e
        · exact Or.inl e
        · exact Or.inr ⟨stn_sub (fun _ _ q => by cases q) k e, (ih k h3 e).1⟩
      have hR : R (20 + k) = true := by
        rcases h5 with e | e
        · rw [e]; exact r.1
        · exact (ih k h3 e).2
      obtain ⟨q1, q2, q3⟩ := step_R g f r e40 hj h3 h4 hk hR
      refine ⟨q1, ?_⟩
      unfold cutR at h2
      rw [q3] at h2
      have : j < 20 := by omega
      simpa [this] using h2
  intro t ht h
  cases q : (stn hb s (cutR R) N).testBit t with
  | false => rfl
  | true =>
    have := (key t q).1
    rw [h] at this
    cases this
theorem cutR_least (g : Gr hb s N told) (f : Flw s N (fre hb s N told) told hb a φ val 40) (r : Rch s a R) (e40 : R 40 = false) {X : Nat → Bool} (hX : ∀ v, X v = true → fre hb s N told v = true) (sp : Sep hb s N told X) : ct (cutR R) N < ct X N ∨ (ct (cutR R) N = ct X N ∧ bs (cutR R) N ≤ bs X N) := by
  have hN := g.2.1
  have hs : s < 20 := by have := g.1; omega
  have hv := cutR_val g f r e40
  have w := g.weak f hX sp
  by_cases lt : ct (cutR R) N < ct X N
  · exact Or.inl lt
  · have eq : ct (cutR R) N = ct X N := by omega
    refine Or.inr ⟨eq, dom_le (fun k hk => ?_)⟩
    -- the side of X holds what is reached
    have ws := (wz_out (hb := hb) (N := N) (told := told) (Z := X) hs).mpr (Or.inl rfl)
    have ti := f.tight (W := wz hb s N told X) hs ws wz_40 (wz_ni g hX sp) (by have := wz_ct (Z := X) g; omega)
    have RW := r.2.2 (wz hb s N told X) ws (fun u v hu hv h1 h2 => by
      cases q : wz hb s N told X v with
      | true => rfl
      | false => have := ti u v hu hv h1 q; rw [h2] at this; cases this)
    have zs : Sep hb s N told (fun v => if v < k then cutR R v else X v) := by
      have key : ∀ j, (stn hb s (fun v => if v < k then cutR R v else X v) N).testBit j = true → (stn hb s X N).testBit j = true ∧ (R (20 + j) = true ∨ k ≤ j) := by
        intro j
        induction j using Nat.strongRecOn with
        | ind j ih =>
          intro h
          have hj := stn_top h
          obtain ⟨h1, h2, p, h3, h4, h5⟩ := (stn_iff hj).mp h
          have hp : p = s ∨ (stn hb s X N).testBit p = true := by
            rcases h5 with e | e
            · exact Or.inl e
            · exact Or.inr (ih p h3 e).1
          have hpR : R (20 + p) = true ∨ k ≤ p := by
            rcases h5 with e | e
            · rw [e]; exact Or.inl r.1
            · exact (ih p h3 e).2
          rcases hpR with hpR | hpk
          · have hp0 : p = s ∨ ((stn hb s (fun _ => false) N).testBit p = true ∧ told p = false) := by
              rcases hp with e | e
              · exact Or.inl e
              · refine Or.inr ⟨stn_sub (fun _ _ q => by cases q) p e, ?_⟩
                cases q : told p with
                | false => rfl
                | true => rw [sp p (by omega) q] at e; cases e
            obtain ⟨q1, q2, q3⟩ := step_R g f r e40 hj h3 h4 hp0 hpR
            cases hq : R (20 + j) with
            | true =>
              have := (wz_out (by omega)).mp (RW (20 + j) (by omega) hq)
              rcases this with e | e
              · omega
              · exact ⟨e, Or.inl rfl⟩
            | false =>
              have cj : cutR R j = true := by
                unfold cutR
                rw [q3, hq]
                have : j < 20 := by omega
                simp [this]
              by_cases jk : j < k
              · rw [if_pos jk, cj] at h2
                cases h2
              · rw [if_neg jk] at h2
                exact ⟨(stn_iff hj).mpr ⟨h1, h2, p, h3, h4, hp⟩, Or.inr (by omega)⟩
          · rw [if_neg (by omega)] at h2
            exact ⟨(stn_iff hj).mpr ⟨h1, h2, p, h3, h4, hp⟩, Or.inr (by omega)⟩
      intro t ht h
      cases q : (stn hb s (fun v => if v < k then cutR R v else X v) N).testBit t with
      | false => rfl
      | true =>
        have := (key t q).1
        rw [sp t ht h] at this
        cases this
    have w2 := g.weak f (Z := fun v => if v < k then cutR R v else X v) (fun v h => by
      by_cases c : v < k
      · rw [if_pos c] at h; exact cutR_fre g f r v h
      · rw [if_neg c] at h; exact hX v h) zs
    have mx := ct_mix (C := cutR R) (X := X) hk
    omega
theorem cutR_may (g : Gr hb s N told) (f : Flw s N (fre hb s N told) told hb a φ val 40) (r : Rch s a R) (e40 : R 40 = false) {c : Nat} (hc : cutR R c = true) : ∃ t, t < N ∧ told t = true ∧ (stn hb c (fun _ => false) N).testBit t = true := by
  apply Classical.byContradiction
  intro q
  have hcF := cutR_fre g f r c hc
  have hcN := (fre_iff.mp hcF).1
  have sp := cutR_sep g f r e40
  have zs : Sep hb s N told (fun v => cutR R v && !decide (v = c)) := by
    have key : ∀ j, (stn hb s (fun v => cutR R v && !decide (v = c)) N).testBit j = true → (stn hb s (cutR R) N).testBit j = true ∨ j = c ∨ (stn hb c (fun _ => false) N).testBit j = true := by
      intro j
      induction j using Nat.strongRecOn with
      | ind j ih =>
        intro h
        have hj := stn_top h
        obtain ⟨h1, h2, p, h3, h4, h5⟩ := (stn_iff hj).mp h
        by_cases e : j = c
        · exact Or.inr (Or.inl e)
        · have cj : cutR R j = false := by simpa [e] using h2
          rcases h5 with e5 | e5
          · exact Or.inl ((stn_iff hj).mpr ⟨h1, cj, p, h3, h4, Or.inl e5⟩)
          · rcases ih p h3 e5 with x | x | x
            · exact Or.inl ((stn_iff hj).mpr ⟨h1, cj, p, h3, h4, Or.inr x⟩)
            · exact Or.inr (Or.inr ((stn_iff hj).mpr ⟨by omega, rfl, p, h3, h4, Or.inl x⟩))
            · have := ((stn_iff (stn_top x)).mp x).1
              exact Or.inr (Or.inr ((stn_iff hj).mpr ⟨by omega, rfl, p, h3, h4, Or.inr x⟩))
    intro t ht h
    cases z : (stn hb s (fun v => cutR R v && !decide (v = c)) N).testBit t with
    | false => rfl
    | true =>
      rcases key t z with x | x | x
      · rw [sp t ht h] at x; cases x
      · have := (fre_iff.mp hcF).2.2
        rw [← x, h] at this
        cases this
      · exact absurd ⟨t, ht, h, x⟩ q
  have w := g.weak f (Z := fun v => cutR R v && !decide (v = c)) (fun v h => by
    simp only [Bool.and_eq_true] at h
    exact cutR_fre g f r v h.1) zs
  have hv := cutR_val g f r e40
  have := ct_drop (p := cutR R) (l := c) (N := N) hcN hc
  omega
end Near
