/-! ===== check, line, count ===== -/
theorem nI_div {a d : Nat} (ha : a < 2 ^ 31) (h0 : 0 < d) (hd : d < 2 ^ 31) : nI a / nI d = nI (a / d) := pk_div ha h0 hd
def num4 (r : Rw) (i : Nat) : Int32 := (jshl ((jshl ((jshl ((jshl 0 8) ||| r (4 * i)) 8) ||| r (4 * i + 1)) 8) ||| r (4 * i + 2)) 8) ||| r (4 * i + 3)
theorem numberX {h : AH} {i : Nat} (hi : i < 20) : fX10_number (nI i) h = some (num4 (h.1 2) i) := by
  unfold fX10_number
  obtain ⟨n, hn⟩ := fuel_plus 5 (by decide)
  have st : ∀ (m k : Nat) (x : Int32), k < 4 → fX10_number_l4 (nI i) h (m + 1) x (nI k) = fX10_number_l4 (nI i) h m ((jshl x 8) ||| h.1 2 (4 * i + k)) (nI (k + 1)) := by
    intro m k x hk
    show fX10_number_l4b (fX10_number_l4 (nI i) h m) (nI i) h x (nI k) = _
    unfold fX10_number_l4b
    rw [if_pos (show nI k < 4 from nI_lt (b := 4) hk (by decide)), show (4 : Int32) * nI i = nI (4 * i) from nI_mul 4 i, nI_add, at_in (show 4 * i + k < aln 2 by show _ < 220; omega), nI_1]
    rfl
  rw [hn]
  show fX10_number_l4 (nI i) h (n + 4 + 1) 0 (nI 0) = _
  rw [st (n + 4) 0 0 (by decide), st (n + 3) 1 _ (by decide), st (n + 2) 2 _ (by decide), st (n + 1) 3 _ (by decide)]
  show fX10_number_l4b (fX10_number_l4 (nI i) h n) (nI i) h _ (nI 4) = _
  unfold fX10_number_l4b
  rw [if_neg (by decide)]
  rfl
def num4M (r : Rw) (i : Nat) : Int32 := (jshl ((jshl ((jshl ((jshl 0 8) ||| (r (4 * i) &&& 255)) 8) ||| (r (4 * i + 1) &&& 255)) 8) ||| (r (4 * i + 2) &&& 255)) 8) ||| (r (4 * i + 3) &&& 255)
theorem numberM {h : AH} {i : Nat} (hi : i < 20) : fX12_tapeNumber (nI i) h = some (num4M (h.1 82) i) := by
  unfold fX12_tapeNumber
  dsimp only [letT]
  obtain ⟨n, hn⟩ := fuel_plus 5 (by decide)
  have e4 : (4 : Int32) * nI i = nI (4 * i) := nI_mul 4 i
  have st : ∀ (m k : Nat) (x : Int32), k < 4 → fX12_tapeNumber_l6 (nI i) h (m + 1) x (nI (4 * i + k)) = fX12_tapeNumber_l6 (nI i) h m ((jshl x 8) ||| (h.1 82 (4 * i + k) &&& 255)) (nI (4 * i + (k + 1))) := by
    intro m k x hk
    show fX12_tapeNumber_l6b (fX12_tapeNumber_l6 (nI i) h m) (nI i) h x (nI (4 * i + k)) = _
    unfold fX12_tapeNumber_l6b
    rw [e4, show nI (4 * i) + 4 = nI (4 * i + 4) from nI_add (4 * i) 4, if_pos (nI_lt (by omega) (by omega)), if_neg (gd (show 4 * i + k < 220 by omega) (by decide)), nI_clamp (by omega), nI_1]
    rfl
  rw [hn, e4]
  show fX12_tapeNumber_l6 (nI i) h (n + 4 + 1) 0 (nI (4 * i + 0)) = _
  rw [st (n + 4) 0 0 (by decide), st (n + 3) 1 _ (by decide), st (n + 2) 2 _ (by decide), st (n + 1) 3 _ (by decide)]
  show fX12_tapeNumber_l6b (fX12_tapeNumber_l6 (nI i) h n) (nI i) h _ (nI (4 * i + 4)) = _
  unfold fX12_tapeNumber_l6b
  rw [e4, show nI (4 * i) + 4 = nI (4 * i + 4) from nI_add (4 * i) 4, if_neg (nI_nlt (Nat.le_refl _) (by omega))]
  rfl
theorem num4_eq {r s : Rw} {i : Nat} (hi : i < 20) (hE : tpE r s) : num4 r i = num4M s i := by
  have e : ∀ k, k < 220 → r k = s k &&& 255 := fun k hk => by
    obtain ⟨b, -, h1, h2⟩ := hE k hk
    rw [h1, h2]
  unfold num4 num4M
  rw [e (4 * i) (by omega), e (4 * i + 1) (by omega), e (4 * i + 2) (by omega), e (4 * i + 3) (by omega)]
/-- where a number is not so -/
def nso (N : Nat) (r C : Rw) (i : Nat) : Bool := !(decide (i < N) && decide (num4 r i = C i))
def ans (o : Option Nat) : Int32 := match o with
  | some j => nI j
  | none => -1
theorem checkX {N n : Nat} {h : AH} (hs : h.1 6 0 = nI N) (hN : N ≤ 20) (hn : n ≤ 20) (K : Int32 → Option (Int32 × AH)) : fX11_check_l30 K (nI n) h fuel0 (-1) 0 = K (ans (fst (nso N (h.1 2) (h.1 7)) 0 n)) := by
  obtain ⟨f, hf⟩ := fuel_plus 1 (by decide)
  have key := for_fst (F := fun m x => fX11_check_l30 K (nI n) h (m + 1) (-1) x) (nso N (h.1 2) (h.1 7)) (fun j => K (nI j)) (K (-1)) n (by omega) (fun m k hk => by
      show fX11_check_l30b (fX11_check_l30 K (nI n) h (m + 1)) K (nI n) h (-1) (nI k) = _
      have hit : fX11_check_l30 K (nI n) h (m + 1) (nI k) (nI (k + 1)) = K (nI k) := by
        show fX11_check_l30b (fX11_check_l30 K (nI n) h m) K (nI n) h (nI k) (nI (k + 1)) = _
        unfold fX11_check_l30b
        have hne : ¬ nI k = -1 := fun q => nI_pos (n := k) (by omega) (by rw [q]; decide)
        by_cases c : nI (k + 1) < nI n
        · rw [if_pos c, if_neg hne]
        · rw [if_neg c]
      unfold fX11_check_l30b
      rw [if_pos (nI_lt hk (by omega)), if_pos rfl, nI_1, hit, numberX (by omega), ob]
      by_cases c : k < N
      · rw [holds_in hs hN c, if_neg (by decide), show fX9_claimOf (nI k) h = h.1 7 k from at_in (show k < 20 by omega)]
        by_cases e : num4 (h.1 2) k = h.1 7 k
        · rw [if_pos e, if_neg (by simp [nso, c, e])]
        · rw [if_neg e, if_pos (by simp [nso, e])]
      · rw [holds_out hs (Or.inr ⟨nI_pos (by omega), nI_nlt (by omega) (by omega)⟩), if_pos rfl, if_pos (by simp [nso, c])]) (fun m => by
      show fX11_check_l30b (fX11_check_l30 K (nI n) h (m + 1)) K (nI n) h (-1) (nI n) = _
      unfold fX11_check_l30b
      rw [if_neg (nI_nlt (Nat.le_refl _) (by omega))]) f 0 (by omega) (by have := fuel_big; omega)
  rw [hf]
  refine key.trans ?_
  rw [Nat.sub_zero]
  cases fst (nso N (h.1 2) (h.1 7)) 0 n <;> rfl
theorem checkM {N n : Nat} {h : AH} (hs : h.1 75 2 = nI N) (hN : N ≤ 20) (hn : n ≤ 20) : fX12_check_l30 (nI n) h fuel0 0 = some (ans (fst (fun i => !(decide (i < N) && decide (num4M (h.1 82) i = h.1 77 i))) 0 n), h) := by
  have key := for_fst (F := fun m x => fX12_check_l30 (nI n) h m x) (fun i => decide (i = N) || !decide (num4M (h.1 82) i = h.1 77 i)) (fun j => some (nI j, h)) (some (-1, h)) n (by omega) (fun m k hk => by
      show fX12_check_l30b (fX12_check_l30 (nI n) h m) (nI n) h (nI k) = _
      unfold fX12_check_l30b
      rw [if_pos (nI_lt hk (by omega)), hs, numberM (by omega), ob, if_neg (gd (show k < 20 by omega) (by decide)), nI_clamp (by omega), nI_1]
      by_cases c : k = N
      · rw [if_pos (by rw [c]), if_pos (by simp [c])]
      · rw [if_neg (fun q => c ((nI_eq (by omega) (by omega)).mp q))]
        by_cases e : num4M (h.1 82) k = h.1 77 k
        · rw [if_pos e, if_neg (by simp [c, e])]
        · rw [if_neg e, if_pos (by simp [e])]) (fun m => by
      show fX12_check_l30b (fX12_check_l30 (nI n) h m) (nI n) h (nI n) = _
      unfold fX12_check_l30b
      rw [if_neg (nI_nlt (Nat.le_refl _) (by omega))]) fuel0 0 (by omega) (by have := fuel_big; omega)
  refine key.trans ?_
  rw [Nat.sub_zero]
  have e : fst (fun i => decide (i = N) || !decide (num4M (h.1 82) i = h.1 77 i)) 0 n = fst (fun i => !(decide (i < N) && decide (num4M (h.1 82) i = h.1 77 i))) 0 n := by
    cases h1 : fst (fun i => decide (i = N) || !decide (num4M (h.1 82) i = h.1 77 i)) 0 n with
    | none =>
      have g1 := fst_none h1
      cases h2 : fst (fun i => !(decide (i < N) && decide (num4M (h.1 82) i = h.1 77 i))) 0 n with
      | none => rfl
      | some j =>
        obtain ⟨b1, b2, b3, b4⟩ := fst_some h2
        exfalso
        have nN : n ≤ N := by
          by_cases q : n ≤ N
          · exact q
          · have := g1 N (by omega) (by omega)
            simp at this
        have := g1 j (by omega) (by omega)
        simp at this b3
        exact b3.elim (fun q => by omega) (fun q => q this.2)
    | some i =>
      obtain ⟨a1, a2, a3, a4⟩ := fst_some h1
      have hiN : i ≤ N := by
        by_cases q : i ≤ N
        · exact q
        · have := a4 N (by omega) (by omega)
          simp at this
      cases h2 : fst (fun i => !(decide (i < N) && decide (num4M (h.1 82) i = h.1 77 i))) 0 n with
      | none =>
        have g2 := fst_none h2
        exfalso
        have := g2 i (by omega) (by omega)
        simp at this a3
        rcases a3 with a3 | a3
        · omega
        · exact a3 this.2
      | some j =>
        obtain ⟨b1, b2, b3, b4⟩ := fst_some h2
        have hij : i = j := by
          rcases Nat.lt_trichotomy i j with c | c | c
          · have := b4 i (by omega) c
            simp at this a3
            rcases a3 with a3 | a3
            · omega
            · exact absurd this.2 a3
          · exact c
          · have := a4 j (by omega) c
            simp at this b3
            exact b3.elim (fun q => by omega) (fun q => absurd this.2 q)
        rw [hij]
  rw [e]
  cases fst (fun i => !(decide (i < N) && decide (num4M (h.1 82) i = h.1 77 i))) 0 n <;> rfl
theorem st_check (p : Int32) {h : AH} (I : Inv h) : St (xo_check p) (mo_check p) h := by
  obtain ⟨⟨N, M, x, H⟩, hk, ⟨T, t1, t2, t3, t4⟩, n, hL⟩ := id I
  have hN := H.N
  by_cases c1 : p < 0
  · refine St.ro (r := -2) I ?_ .rf ?_ .rf
    · unfold xo_check fX11_check
      rw [if_pos c1]
    · unfold mo_check fX12_check
      rw [in_no (Or.inl c1), if_pos rfl]
  · by_cases c2 : (20 : Int32) < p
    · refine St.ro (r := -2) I ?_ .rf ?_ .rf
      · unfold xo_check fX11_check
        rw [if_neg c1, if_pos c2]
      · unfold mo_check fX12_check
        rw [in_no (Or.inr c2), if_pos rfl]
    · obtain ⟨k, hk0, rfl⟩ := nI_of c1
      have k20 : k ≤ 20 := by
        by_cases q : k ≤ 20
        · exact q
        · exact absurd (nI_lt (a := 20) (b := k) (by omega) hk0) c2
      have e4 : (4 : Int32) * nI k = nI (4 * k) := nI_mul 4 k
      have e5 : nI T / 4 = nI (T / 4) := nI_div (d := 4) (by omega) (by decide) (by decide)
      by_cases c3 : T < 4 * k
      · refine St.ro (r := -2) I ?_ .rf ?_ .rf
        · unfold xo_check fX11_check
          rw [if_neg c1, if_neg c2, t2, e4, if_pos (nI_lt c3 (by omega))]
        · unfold mo_check fX12_check
          rw [in_yes c1 c2, if_neg (by decide), t3, e5, if_pos (nI_lt (by omega) (by omega))]
      · refine ⟨ans (fst (nso N (h.1 2) (h.1 7)) 0 k), sI h 1 1 0, sI (sI h 1 1 0) 75 10 0, ?_, ?_, ⟨N, M, x, H⟩, hk, ⟨0, by omega, rfl, rfl, t4⟩, n, hL⟩
        · unfold xo_check fX11_check
          rw [if_neg c1, if_neg c2, t2, e4, if_neg (nI_nlt (by omega) (by omega)), checkX H.sX hN k20]
          rfl
        · unfold mo_check fX12_check
          rw [in_yes c1 c2, if_neg (by decide), show (sI h 1 1 0).1 75 10 = nI T from t3, e5, if_neg (nI_nlt (by omega) (by omega))]
          dsimp only [letT]
          rw [checkM (h := sI (sI h 1 1 0) 75 10 0) H.sM hN k20]
          have e : fst (fun i => !(decide (i < N) && decide (num4M ((sI (sI h 1 1 0) 75 10 0).1 82) i = (sI (sI h 1 1 0) 75 10 0).1 77 i))) 0 k = fst (nso N (h.1 2) (h.1 7)) 0 k := fst_cong (fun i _ hi => by
            show (!(decide (i < N) && decide (num4M (h.1 82) i = h.1 77 i))) = nso N (h.1 2) (h.1 7) i
            unfold nso
            by_cases c : i < N
            · rw [num4_eq (by omega) t4, H.C i c]
            · simp [c])
          rw [e]
