/-! ===== the calls, one by one: both sides answer alike, and Inv holds behind them ===== -/
def St {β : Type} (X Mo : AH → Option (β × AH)) (h : AH) : Prop := ∃ r h1 h2, X h = some (r, h1) ∧ Mo h1 = some (r, h2) ∧ Inv h2
theorem St.ro {β : Type} {X Mo : AH → Option (β × AH)} {h h1 h2 : AH} {r : β} (I : Inv h) (hX : X h = some (r, h1)) (c1 : Core h h1) (hM : Mo h1 = some (r, h2)) (c2 : Core h1 h2) : St X Mo h := ⟨r, h1, h2, hX, hM, I.core (c1.tr c2)⟩
/-- a number is a place below N, or refused -/
theorem pl_cases {N : Nat} (hN : N < 2 ^ 31) (p : Int32) : (∃ i, i < N ∧ p = nI i) ∨ (p < 0 ∨ (¬ p < 0 ∧ ¬ p < nI N)) := by
  by_cases h0 : p < 0
  · exact Or.inr (Or.inl h0)
  · obtain ⟨j, hj, rfl⟩ := nI_of h0
    by_cases h1 : j < N
    · exact Or.inl ⟨j, h1, rfl⟩
    · exact Or.inr (Or.inr ⟨h0, nI_nlt (by omega) hj⟩)
theorem holds_in {N i : Nat} {h : AH} (hs : h.1 6 0 = nI N) (hN : N ≤ 20) (hi : i < N) : fX6_holds (nI i) h = 1 := by
  unfold fX6_holds
  rw [hs, if_neg (nI_pos (by omega)), if_pos (nI_lt hi (by omega))]
theorem holds_out {N : Nat} {h : AH} {p : Int32} (hs : h.1 6 0 = nI N) (hp : p < 0 ∨ (¬ p < 0 ∧ ¬ p < nI N)) : fX6_holds p h = 0 := by
  unfold fX6_holds
  rw [hs]
  rcases hp with hp | ⟨h1, h2⟩
  · rw [if_pos hp]
  · rw [if_neg h1, if_neg h2]
theorem isLine_in {N i : Nat} {h : AH} (hs : h.1 75 2 = nI N) (hN : N ≤ 20) (hi : i < N) : fX12_isLine (nI i) h = 1 := by
  unfold fX12_isLine
  rw [hs, if_neg (nI_pos (by omega)), if_pos (nI_lt hi (by omega))]
theorem isLine_out {N : Nat} {h : AH} {p : Int32} (hs : h.1 75 2 = nI N) (hp : p < 0 ∨ (¬ p < 0 ∧ ¬ p < nI N)) : fX12_isLine p h = 0 := by
  unfold fX12_isLine
  rw [hs]
  rcases hp with hp | ⟨h1, h2⟩
  · rw [if_pos hp]
  · rw [if_neg h1, if_neg h2]
theorem isClaimX_in {M v : Nat} {h : AH} (hs : h.1 3 0 = nI M) (hM : M ≤ 97) (hv : v < M) : fX9_isClaim (nI v) h = 1 := by
  unfold fX9_isClaim
  rw [hs, if_neg (nI_pos (by omega)), if_pos (nI_lt hv (by omega))]
theorem isClaimX_out {M : Nat} {h : AH} {p : Int32} (hs : h.1 3 0 = nI M) (hp : p < 0 ∨ (¬ p < 0 ∧ ¬ p < nI M)) : fX9_isClaim p h = 0 := by
  unfold fX9_isClaim
  rw [hs]
  rcases hp with hp | ⟨h1, h2⟩
  · rw [if_pos hp]
  · rw [if_neg h1, if_neg h2]
theorem isClaimM_in {M v : Nat} {h : AH} (hs : h.1 75 0 = nI M) (hM : M ≤ 97) (hv : v < M) : fX12_isClaim (nI v) h = 1 := by
  unfold fX12_isClaim
  rw [hs, if_neg (nI_pos (by omega)), if_pos (nI_lt hv (by omega))]
theorem isClaimM_out {M : Nat} {h : AH} {p : Int32} (hs : h.1 75 0 = nI M) (hp : p < 0 ∨ (¬ p < 0 ∧ ¬ p < nI M)) : fX12_isClaim p h = 0 := by
  unfold fX12_isClaim
  rw [hs]
  rcases hp with hp | ⟨h1, h2⟩
  · rw [if_pos hp]
  · rw [if_neg h1, if_neg h2]
theorem in_yes {p a b : Int32} {h : AH} (h1 : ¬ p < a) (h2 : ¬ b < p) : fX12_in p a b h = 1 := by
  unfold fX12_in
  rw [if_neg h1, if_neg h2]
theorem in_no {p a b : Int32} {h : AH} (hp : p < a ∨ b < p) : fX12_in p a b h = 0 := by
  unfold fX12_in
  by_cases h1 : p < a
  · rw [if_pos h1]
  · rw [if_neg h1, if_pos (hp.resolve_left h1)]
theorem ScN.eX {N M x : Nat} {h : AH} (H : ScN N M x h) : h.1 3 0 = nI M := H.2.2.2.2.2.2.1.2.1
theorem ScN.eM {N M x : Nat} {h : AH} (H : ScN N M x h) : h.1 75 0 = nI M := H.2.2.1.trans H.eX
theorem ScN.M97 {N M x : Nat} {h : AH} (H : ScN N M x h) : 2 ≤ M ∧ M ≤ 97 := ⟨H.2.2.2.2.2.2.1.2.2.1, H.2.2.2.2.2.2.1.2.2.2.1⟩
theorem ScN.sX {N M x : Nat} {h : AH} (H : ScN N M x h) : h.1 6 0 = nI N := H.1
theorem ScN.sM {N M x : Nat} {h : AH} (H : ScN N M x h) : h.1 75 2 = nI N := H.2.1
theorem ScN.N {N M x : Nat} {h : AH} (H : ScN N M x h) : N ≤ 20 := H.2.2.2.2.2.2.1.1
-- points
theorem st_points (p : Int32) {h : AH} (I : Inv h) : St (xo_points p) (mo_points p) h := by
  obtain ⟨⟨N, M, x, H⟩, -⟩ := id I
  have hP := H.2.2.2.2.2.2.2.2.2.2.2.2.2.2
  rcases pl_cases (N := 8) (by decide) p with ⟨i, hi, rfl⟩ | hp
  · refine St.ro (r := h.1 5 i) I ?_ .rf ?_ .rf
    · unfold xo_points fX11_points fX11_isPupil
      rw [if_neg (nI_pos (by omega)), if_pos (show nI i < 8 from nI_lt hi (by decide)), if_neg (by decide), at_in (show i < aln 5 from hi)]
    · unfold mo_points fX12_points fX12_isPupil
      rw [if_neg (nI_pos (by omega)), if_pos (show nI i < 8 from nI_lt hi (by decide)), if_neg (by decide), if_neg (gd hi (by decide)), nI_clamp (by omega), (hP i hi).1]
      rfl
  · have hX : fX11_isPupil p h = 0 := by
      unfold fX11_isPupil
      rcases hp with hp | ⟨h1, h2⟩
      · rw [if_pos hp]
      · rw [if_neg h1, if_neg (show ¬ p < 8 from h2)]
    have hM : fX12_isPupil p h = 0 := hX
    refine St.ro (r := -1000) I ?_ .rf ?_ .rf
    · unfold xo_points fX11_points
      rw [if_pos hX]
    · unfold mo_points fX12_points
      rw [if_pos hM]
      rfl
/-- the wrong lines -/
def wrX (h : AH) (i : Nat) : Bool := !decide (h.1 7 i = mX h (h.1 7) i)
def wrM (h : AH) (i : Nat) : Bool := !decide (h.1 77 i = mM h (h.1 77) i)
theorem isWrongX_eq {N M i : Nat} {h : AH} (w : WX N M h) (hi : i < N) : fX9_isWrong (nI i) h = if wrX h i then 1 else 0 := by
  have hN := w.N
  unfold fX9_isWrong fX9_claimOf wrX
  rw [at_in (show i < aln 7 from by show i < 20; omega), made_eq w hi (by decide)]
  by_cases e : h.1 7 i = mX h (h.1 7) i
  · rw [if_pos e, if_neg (by simp [e])]
  · rw [if_neg e, if_pos (by simp [e])]
theorem isWrongM_eq {N M i : Nat} {h : AH} (w : WM N M h) (hi : i < N) : fX12_isWrong (nI i) h = some (if wrM h i then 1 else 0) := by
  have hN := w.N
  unfold fX12_isWrong wrM
  rw [if_neg (gd (show i < 20 by omega) (by decide)), makes_eq w hi (by decide), nI_clamp (by omega)]
  show (if h.1 77 i = mM h (h.1 77) i then some (0 : Int32) else some 1) = _
  by_cases e : h.1 77 i = mM h (h.1 77) i
  · rw [if_pos e, if_neg (by simp [e])]
  · rw [if_neg e, if_pos (by simp [e])]
theorem wrongLines_eq {N M : Nat} {h : AH} (w : WX N M h) : fX9_wrongLines h = some (nI (bs (wrX h) N)) := by
  have hN := w.N
  have key := for_up0 (F := fun n x s => fX9_wrongLines_l4 h n (nI s) x) (fun k s => if wrX h k then s ||| 2 ^ k else s) (fun s => some (nI s)) N (by omega) (fun n k s hkN => by
      show fX9_wrongLines_l4b (fX9_wrongLines_l4 h n) h (nI s) (nI k) = _
      unfold fX9_wrongLines_l4b
      rw [w.1, if_pos (nI_lt hkN (by omega)), isWrongX_eq w hkN, nI_1]
      cases hw : wrX h k with
      | false => rw [if_pos (by rfl), if_neg (by decide)]
      | true =>
        rw [if_neg (by decide), if_pos rfl, show fX11_bit (nI k) h = jshl 1 (nI k) from rfl, or_bit (by omega)]
        rfl) (fun n s => by
      show fX9_wrongLines_l4b (fX9_wrongLines_l4 h n) h (nI s) (nI N) = _
      unfold fX9_wrongLines_l4b
      rw [w.1, if_neg (nI_nlt (Nat.le_refl _) (by omega))]) fuel0 0 0 (by omega) (by have := fuel_big; omega)
  rw [Nat.sub_zero, bs_itf] at key
  exact key
theorem wrong_eqM {N M : Nat} {h : AH} (w : WM N M h) : fX12_wrong h = some (nI (bs (wrM h) N)) := by
  have hN := w.N
  have key := for_up0 (F := fun n x s => fX12_wrong_l4 h n (nI s) x) (fun k s => if wrM h k then s ||| 2 ^ k else s) (fun s => some (nI s)) N (by omega) (fun n k s hkN => by
      show fX12_wrong_l4b (fX12_wrong_l4 h n) h (nI s) (nI k) = _
      unfold fX12_wrong_l4b
      rw [w.1, if_pos (nI_lt hkN (by omega)), isWrongM_eq w hkN, nI_1]
      cases hw : wrM h k with
      | false => rfl
      | true =>
        show (if (1 : Int32) = 0 then fX12_wrong_l4 h n (nI s) (nI (k + 1)) else letT (nI s ||| jshl 1 (nI k)) fun v5 => fX12_wrong_l4 h n v5 (nI (k + 1))) = _
        rw [if_neg (by decide), if_pos rfl, or_bit (by omega)]
        rfl) (fun n s => by
      show fX12_wrong_l4b (fX12_wrong_l4 h n) h (nI s) (nI N) = _
      unfold fX12_wrong_l4b
      rw [w.1, if_neg (nI_nlt (Nat.le_refl _) (by omega))]) fuel0 0 0 (by omega) (by have := fuel_big; omega)
  rw [Nat.sub_zero, bs_itf] at key
  exact key
theorem ScN.wr {N M x : Nat} {h : AH} (H : ScN N M x h) : ∀ i, i < N → wrX h i = wrM h i := by
  intro i hi
  unfold wrX wrM
  rw [H.C i hi, H.same hi (H.C.le (Nat.le_of_lt hi))]
theorem st_wrong {h : AH} (I : Inv h) : St xo_wrong mo_wrong h := by
  obtain ⟨⟨N, M, x, H⟩, -⟩ := id I
  refine St.ro (r := nI (bs (wrX h) N)) I ?_ .rf ?_ .rf
  · unfold xo_wrong fX11_wrong
    rw [wrongLines_eq H.WX]
    rfl
  · unfold mo_wrong
    rw [wrong_eqM H.WM, bs_cong H.wr]
    rfl
-- seed
theorem st_seed (p : Int32) {h : AH} (I : Inv h) : St (xo_seed p) (mo_seed p) h := by
  obtain ⟨⟨N, M, x, H⟩, hk, ⟨T, hT⟩, n, hL⟩ := I
  by_cases h1 : p < 0
  · refine ⟨0, h, h, ?_, ?_, ⟨⟨N, M, x, H⟩, hk, ⟨T, hT⟩, n, hL⟩⟩
    · unfold xo_seed fX11_seed
      rw [if_pos h1]
    · unfold mo_seed fX12_seed
      rw [if_pos (in_no (Or.inl h1))]
  · by_cases h2 : (65535 : Int32) < p
    · refine ⟨0, h, h, ?_, ?_, ⟨⟨N, M, x, H⟩, hk, ⟨T, hT⟩, n, hL⟩⟩
      · unfold xo_seed fX11_seed
        rw [if_neg h1, if_pos h2]
      · unfold mo_seed fX12_seed
        rw [if_pos (in_no (Or.inr h2))]
    · refine ⟨1, sI h 3 1 p, sI (sI h 3 1 p) 75 1 p, ?_, ?_, ?_⟩
      · unfold xo_seed fX11_seed
        rw [if_neg h1, if_neg h2]
        rfl
      · unfold mo_seed fX12_seed
        rw [in_yes h1 h2, if_neg (by decide)]
        rfl
      · obtain ⟨j, hj, rfl⟩ := nI_of h1
        have hj2 : j < 65536 := by
          by_cases q : j < 65536
          · exact q
          · exact absurd (nI_lt (a := 65535) (b := j) (by omega) hj) h2
        obtain ⟨a1, a2, a3, a4, a5, a6, a7⟩ := H
        refine ⟨⟨N, M, j, ?_⟩, ?_, ⟨T, ?_⟩, n, ?_⟩
        · unfold ScN
          simp only [sI_sR, sR_at, sR_ne _ _ (show (3 : Nat) ≠ 75 by decide), sR_ne _ _ (show (75 : Nat) ≠ 3 by decide)]
          exact ⟨a1, a2, a3, rfl, rfl, hj2, a7⟩
        · exact hk
        · exact hT
        · exact hL
