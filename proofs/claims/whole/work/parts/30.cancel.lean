/-! ===== cancel ===== -/
/-- a loop that may end early, with what it would have come to -/
theorem for_exx {σ R : Type} {F : Nat → Int32 → σ → R} (E : σ → R) (N : Nat) (hN : N < 2 ^ 31) (I : Nat → σ → Prop)
    (hs : ∀ n k s, k < N → I k s → (∃ s', F (n + 1) (nI k) s = F n (nI (k + 1)) s' ∧ I (k + 1) s') ∨ ∃ s', F (n + 1) (nI k) s = E s' ∧ I N s') (he : ∀ n s, I N s → F (n + 1) (nI N) s = E s) :
    ∀ (n k : Nat) (s : σ), k ≤ N → N - k < n → I k s → ∃ s', F n (nI k) s = E s' ∧ I N s' := by
  intro n
  induction n with
  | zero => intro k s _ h; exact absurd h (Nat.not_lt_zero _)
  | succ n ih =>
    intro k s hk hn hI
    by_cases hkN : k = N
    · subst hkN
      exact ⟨s, he n s hI, hI⟩
    · rcases hs n k s (by omega) hI with ⟨s', h1, h2⟩ | h
      · obtain ⟨t, h3, h4⟩ := ih (k + 1) s' (by omega) (by omega) h2
        exact ⟨t, h1.trans h3, h4⟩
      · exact h
theorem mk_refs {m : Int32} {A K F S r r' : Rw} {i : Nat} (hw : Lw K F S i) (hi : i < 1000) (h : ∀ k, k < i → hasb K F S i k = true → r k = r' k) : mk m A K F S r i = mk m A K F S r' i := by
  unfold mk
  rcases hw with ⟨h0, -, -⟩ | ⟨h0, ⟨f, hf, ef⟩, -⟩ | ⟨h0, ⟨f, hf, ef⟩, g, hg, eg⟩
  · rw [if_pos h0, if_pos h0]
  · have hn0 : ¬ K i = 0 := by rcases h0 with h0 | h0 <;> (rw [h0]; decide)
    have hr : r (F i).toNatClampNeg = r' (F i).toNatClampNeg := by
      rw [ef, nI_clamp (by omega)]
      exact h f hf (by unfold hasb; simp [hn0, ef])
    rcases h0 with h0 | h0 <;> simp only [h0, hr, d10, d20, d21, if_false, if_true]
  · have hn0 : ¬ K i = 0 := by rcases h0 with h0 | h0 <;> (rw [h0]; decide)
    have hr : r (F i).toNatClampNeg = r' (F i).toNatClampNeg := by
      rw [ef, nI_clamp (by omega)]
      exact h f hf (by unfold hasb; simp [hn0, ef])
    have hs : r (S i).toNatClampNeg = r' (S i).toNatClampNeg := by
      rw [eg, nI_clamp (by omega)]
      exact h g hg (by unfold hasb; simp [eg])
    rcases h0 with h0 | h0 <;> simp only [h0, hr, hs, d10, d20, d21, d30, d31, d32, d40, d41, d42, d43, if_false, if_true]
theorem nd_iff {N M x a l : Nat} {h : AH} (H : ScN N M x h) (ha : a < N) (hl : l < N) : bt (h.1 13 a) l = true ↔ l < a ∧ ∃ r, r < a ∧ hbX h a r = true ∧ (r = l ∨ bt (h.1 13 r) l = true) := by
  rw [needs_bit H ha hl, stn_bit ha]
  simp only [Bool.not_false, Bool.and_true, Bool.and_eq_true, decide_eq_true_eq, anyb_iff, Bool.or_eq_true]
  constructor
  · rintro ⟨h1, r, h2, h3, h4⟩
    refine ⟨h1, r, h2, h3, h4.imp id (fun q => ?_)⟩
    rw [needs_bit H (by omega) hl]
    exact q
  · rintro ⟨h1, r, h2, h3, h4⟩
    refine ⟨h1, r, h2, h3, h4.imp id (fun q => ?_)⟩
    rw [needs_bit H (by omega) hl] at q
    exact q
theorem hb_lt {N M x a r : Nat} {h : AH} (H : ScN N M x h) (ha : a < N) (hr : r < 1000) (hb : hbX h a r = true) : r < a := by
  have hN := H.N
  have hm := m2_ne (i := r) (by omega)
  change hasb (h.1 8) (h.1 9) (h.1 10) a r = true at hb
  unfold hasb at hb
  simp only [Bool.or_eq_true, Bool.and_eq_true, Bool.not_eq_true', decide_eq_true_eq, decide_eq_false_iff_not] at hb
  rcases H.WX.2.2.2.2.2.2 a ha with ⟨h0, -, es⟩ | ⟨h0, ⟨f, hf, ef⟩, es⟩ | ⟨h0, ⟨f, hf, ef⟩, g, hg, eg⟩
  · rcases hb with ⟨q, -⟩ | q
    · exact absurd h0 q
    · rw [es] at q; exact absurd q hm
  · rcases hb with ⟨-, q⟩ | q
    · rw [ef] at q; have := (nI_eq (by omega) (by omega)).mp q; omega
    · rw [es] at q; exact absurd q hm
  · rcases hb with ⟨-, q⟩ | q
    · rw [ef] at q; have := (nI_eq (by omega) (by omega)).mp q; omega
    · rw [eg] at q; have := (nI_eq (by omega) (by omega)).mp q; omega
theorem nd_trans {N M x : Nat} {h : AH} (H : ScN N M x h) : ∀ {a l k : Nat}, a < N → l < N → bt (h.1 13 a) l = true → hbX h l k = true → k < l → bt (h.1 13 a) k = true := by
  intro a
  induction a using Nat.strongRecOn with
  | ind a ih =>
    intro l k ha hl h1 h2 hk
    obtain ⟨hla, r, hr, hb, h3⟩ := (nd_iff H ha hl).mp h1
    refine (nd_iff H ha (by omega)).mpr ⟨by omega, r, hr, hb, Or.inr ?_⟩
    rcases h3 with rfl | h3
    · exact (nd_iff H hl (by omega)).mpr ⟨hk, k, hk, h2, Or.inl rfl⟩
    · exact ih r hr (by omega) hl h3 h2 hk
/-- lines through which a slip at j comes to the last -/
def btw (h : AH) (N j l : Nat) : Bool := decide (j < l) && bt (h.1 13 l) j && (bt (h.1 13 (N - 1)) l || decide (l = N - 1))
theorem between_eq {N M x j : Nat} {h : AH} (H : ScN N M x h) (hj : j < N) : ∃ B : Int32, fX0_between (nI j) h = some B ∧ ∀ l, l < N → bt B l = btw h N j l := by
  have hN := H.N
  unfold fX0_between fX6_last
  rw [standingOn_eq H.WX hj, ob, H.sX, nI_sub1 (by omega), at_in (show N - 1 < aln 13 by show _ < 20; omega), show fX11_bit (nI (N - 1)) h = jshl 1 (nI (N - 1)) from rfl]
  refine ⟨_, rfl, fun l hl => ?_⟩
  rw [b_and, bt_or_nI (by omega) (by omega), bt_nI (by omega), bs_bit]
  unfold btw
  have e : decide (N - 1 = l) = decide (l = N - 1) := decide_eq_decide.mpr ⟨Eq.symm, Eq.symm⟩
  rw [e]
  simp [hl]
/-- one trial of a second slip, on the class's side -/
theorem cancels_eq {N M x j : Nat} {w B : Int32} {h g : AH} {T S1 : Rw} (H : ScN N M x h) (c : Core h g) (hj : j < N) (hB : ∀ l, l < N → bt B l = btw h N j l) (e54 : g.1 54 (N - 1) = T (N - 1)) (hS : ∀ l, j < l → l < N → S1 l = mX h S1 l) (e56 : ∀ l, l < N → l ≠ j → btw h N j l = false → g.1 56 l = S1 l) :
    ∃ r, fX0_cancels (nI j) w B g = some (if slp (mX h) N j w S1 (N - 1) = T (N - 1) then 1 else 0, sR g 56 r) ∧ ∀ l, l < N → l ≠ j → btw h N j l = false → r l = S1 l := by
  have hN := H.N
  have Hg := H.core c
  let S2 := slp (mX h) N j w S1
  have s2j : S2 j = w := by
    show slp (mX h) N j w S1 j = w
    unfold slp
    rw [wk_out (by omega), upd_at]
  have s2lo : ∀ l, l < j → S2 l = S1 l := fun l hl => by
    show slp (mX h) N j w S1 l = _
    unfold slp
    rw [wk_out (by omega), upd_ne _ _ (by omega)]
  have s2hi : ∀ l, j < l → l < N → S2 l = mX h S2 l := fun l h1 h2 => by
    show slp (mX h) N j w S1 l = mX h (slp (mX h) N j w S1) l
    unfold slp
    exact wk_in' (mX_ahead H.WX) (by omega) (by omega) (by omega)
  have lwl : ∀ l, l < N → Lw (h.1 8) (h.1 9) (h.1 10) l := H.WX.2.2.2.2.2.2
  -- what does not stand on j is as it was
  have s2no : ∀ l, l < N → l ≠ j → bt (h.1 13 l) j = false → S2 l = S1 l := by
    intro l
    induction l using Nat.strongRecOn with
    | ind l ih =>
      intro hl hne hb
      by_cases hlj : l < j
      · exact s2lo l hlj
      · rw [s2hi l (by omega) hl, hS l (by omega) hl]
        refine mk_refs (lwl l hl) (by omega) (fun k hk hbk => ?_)
        have nj : k ≠ j := fun e => by
          have := (nd_iff H hl hj).mpr ⟨by omega, k, hk, hbk, Or.inl e⟩
          rw [hb] at this
          cases this
        refine ih k hk (by omega) nj ?_
        rw [Bool.eq_false_iff]
        intro q
        have hjk : j < k := ((nd_iff H (by omega) hj).mp q).1
        have := (nd_iff H hl hj).mpr ⟨by omega, k, hk, hbk, Or.inr q⟩
        rw [hb] at this
        cases this
  unfold fX0_cancels
  have el : fX6_last g = nI (N - 1) := by
    unfold fX6_last
    rw [Hg.sX, nI_sub1 (by omega)]
  rw [el, put_in (show j < aln 56 by show j < 20; omega), nI_1, sI_sR]
  dsimp only [letT]
  generalize hK : (fun g6 : AH => if fX11_at 56 (nI (N - 1)) g6 = fX11_at 54 (nI (N - 1)) g6 then some ((1 : Int32), g6) else some ((0 : Int32), g6)) = K
  obtain ⟨r, hr, hI⟩ := for_ex (F := fun m xx (r : Rw) => fX0_cancels_l23 K B (nI (N - 1)) m xx (sR g 56 r)) (fun r => K (sR g 56 r)) N (by omega) (fun k r => (∀ l, l < N → l ≠ j → btw h N j l = false → r l = S1 l) ∧ r j = w ∧ ∀ l, l < k → l < N → btw h N j l = true → r l = S2 l) (fun m k r hk hI => by
      obtain ⟨i1, i2, i3⟩ := hI
      show ∃ s', fX0_cancels_l23b (fX0_cancels_l23 K B (nI (N - 1)) m) K B (nI (N - 1)) (nI k) (sR g 56 r) = _ ∧ _
      unfold fX0_cancels_l23b
      rw [if_neg (nI_nlt (by omega) (by omega)), isIn_bt _ (by omega), hB k hk, nI_1]
      cases hb : btw h N j k with
      | false =>
        rw [if_pos (by rfl)]
        refine ⟨r, rfl, i1, i2, fun l hl hlN hbl => ?_⟩
        by_cases e : l = k
        · rw [e, hb] at hbl; cases hbl
        · exact i3 l (by omega) hlN hbl
      | true =>
        rw [if_neg (by decide), made_eq (Hg.WX.sR (by unfold offX; omega)) hk (by decide), mX_sR (by unfold offX; omega), sR_at, put_in (show k < aln 56 by show k < 20; omega), sI_R, mX_core c]
        have hbk := hb
        unfold btw at hbk
        simp only [Bool.and_eq_true, Bool.or_eq_true, decide_eq_true_eq] at hbk
        obtain ⟨⟨hjk, hst⟩, hlast⟩ := hbk
        have ev : mX h r k = S2 k := by
          rw [s2hi k hjk hk]
          refine mk_refs (lwl k hk) (by omega) (fun q hq hbq => ?_)
          by_cases e : q = j
          · rw [e, i2, s2j]
          · cases hs : bt (h.1 13 q) j with
            | false =>
              have : btw h N j q = false := by unfold btw; simp [hs]
              rw [i1 q (by omega) e this, s2no q (by omega) e hs]
            | true =>
              have hjq : j < q := ((nd_iff H (by omega) hj).mp hs).1
              have hlq : bt (h.1 13 (N - 1)) q = true := by
                rcases hlast with z | z
                · exact nd_trans H (by omega) hk z hbq hq
                · subst z
                  exact (nd_iff H hk (by omega)).mpr ⟨hq, q, hq, hbq, Or.inl rfl⟩
              exact i3 q hq (by omega) (by unfold btw; simp [hjq, hs, hlq])
        refine ⟨upd r k (mX h r k), rfl, fun l hl hne hbl => ?_, ?_, fun l hl hlN hbl => ?_⟩
        · by_cases e : l = k
          · rw [e, hb] at hbl; cases hbl
          · rw [upd_ne _ _ e]; exact i1 l hl hne hbl
        · rw [upd_ne _ _ (by omega)]; exact i2
        · by_cases e : l = k
          · rw [e, upd_at]; exact ev
          · rw [upd_ne _ _ e]; exact i3 l (by omega) hlN hbl) (fun m r _ => by
      show fX0_cancels_l23b (fX0_cancels_l23 K B (nI (N - 1)) m) K B (nI (N - 1)) (nI N) (sR g 56 r) = _
      unfold fX0_cancels_l23b
      rw [if_pos (nI_lt (by omega) (by omega))]) fuel0 (j + 1) (upd (g.1 56) j w) (by omega) (by have := fuel_big; omega) ⟨fun l hl hne hbl => by rw [upd_ne _ _ hne]; exact e56 l hl hne hbl, upd_at _ _ _, fun l hl hlN hbl => by
        exfalso
        unfold btw at hbl
        simp only [Bool.and_eq_true, decide_eq_true_eq] at hbl
        omega⟩
  refine ⟨r, ?_, hI.1⟩
  refine hr.trans ?_
  rw [← hK]
  dsimp only
  rw [at_in (show N - 1 < aln 56 by show _ < 20; omega), at_in (show N - 1 < aln 54 by show _ < 20; omega), sR_at, sR_ne _ _ (by decide), e54]
  have er : r (N - 1) = S2 (N - 1) := by
    by_cases e : N - 1 = j
    · rw [e, hI.2.1, s2j]
    · cases hs : bt (h.1 13 (N - 1)) j with
      | false =>
        rw [hI.1 (N - 1) (by omega) e (by unfold btw; simp [hs]), s2no (N - 1) (by omega) e hs]
      | true =>
        exact hI.2.2 (N - 1) (by omega) (by omega) (by unfold btw; simp [hs]; omega)
  rw [er]
  by_cases e : slp (mX h) N j w S1 (N - 1) = T (N - 1)
  · rw [if_pos e, if_pos e]
  · rw [if_neg e, if_neg e]
