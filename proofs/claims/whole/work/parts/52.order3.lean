theorem lg_z {b : Nat} (hb : b < 2 ^ 62) : lg_cmp (lN b) 0 = if b = 0 then 0 else 1 := by
  unfold lg_cmp
  have e0 : (0 : Int64) = lN 0 := rfl
  rw [e0]
  by_cases e : b = 0
  · rw [e, if_pos rfl, if_neg (by decide), if_pos rfl]
  · rw [if_neg e, if_pos]
    exact (pk_lLT (by omega) (by omega)).mpr (by omega)
theorem lN_nz {b : Nat} (hb : b < 2 ^ 62) (h : ¬ b = 0) : ¬ lN b = 0 := fun q => h ((pk_lEQ (a := b) (b := 0) (by omega) (by decide)).mp q)
theorem gcd_step (a b : Nat) : Nat.gcd a b = Nat.gcd b (a % b) := by rw [Nat.gcd_comm a b, Nat.gcd_rec b a, Nat.gcd_comm]
theorem half_rem {b r : Nat} (h0 : 0 < r) (h : r < b) : 2 * (b % r) < b := by
  have h1 := Nat.mod_lt b h0
  have h2 := Nat.div_add_mod b r
  have h3 : 1 ≤ b / r := (Nat.one_le_div_iff h0).mpr (by omega)
  have h4 : r * 1 ≤ r * (b / r) := Nat.mul_le_mul_left r h3
  omega
theorem gcdM {h : AH} : ∀ (k a b n : Nat), b < 2 ^ k → k ≤ 40 → a < 2 ^ 62 → b < 2 ^ 62 → 2 * k < n → fX12_gcd_l6 h n (lN a) (lN b) = some (lN (Nat.gcd a b)) := by
  intro k
  induction k with
  | zero =>
    intro a b n hb _ ha hb2 hn
    have : b = 0 := by rw [Nat.pow_zero] at hb; omega
    obtain ⟨m, rfl⟩ : ∃ m, n = m + 1 := ⟨n - 1, by omega⟩
    show fX12_gcd_l6b _ h (lN a) (lN b) = _
    unfold fX12_gcd_l6b
    rw [lg_z hb2, if_pos this, if_pos rfl, this, Nat.gcd_zero_right]
  | succ k ih =>
    intro a b n hb hk ha hb2 hn
    obtain ⟨m, rfl⟩ : ∃ m, n = m + 1 + 1 := ⟨n - 2, by omega⟩
    show fX12_gcd_l6b (fX12_gcd_l6 h (m + 1)) h (lN a) (lN b) = _
    unfold fX12_gcd_l6b
    by_cases e : b = 0
    · rw [lg_z hb2, if_pos e, if_pos rfl, e, Nat.gcd_zero_right]
    · have hr := Nat.mod_lt a (show 0 < b by omega)
      have er : jremL (lN a) (lN b) = lN (a % b) := pk_lRem (by omega) (by omega) (by omega)
      rw [lg_z hb2, if_neg e, if_neg (by decide), if_neg (lN_nz hb2 e), er, gcd_step a b]
      show fX12_gcd_l6b (fX12_gcd_l6 h m) h (lN b) (lN (a % b)) = _
      unfold fX12_gcd_l6b
      by_cases e2 : a % b = 0
      · rw [lg_z (by omega), if_pos e2, if_pos rfl, e2, Nat.gcd_zero_right]
      · have hh := half_rem (b := b) (r := a % b) (by omega) hr
        have er2 : jremL (lN b) (lN (a % b)) = lN (b % (a % b)) := pk_lRem (by omega) (by omega) (by omega)
        rw [lg_z (by omega), if_neg e2, if_neg (by decide), if_neg (lN_nz (by omega) e2), er2, gcd_step b (a % b)]
        refine ih (a % b) (b % (a % b)) m ?_ (by omega) (by omega) (by omega) (by omega)
        rw [Nat.pow_succ] at hb
        omega
theorem gcdX {h : AH} {K : Int64 → Option AH} : ∀ (k a b n s : Nat), b < 2 ^ k → a < 2 ^ 62 → b < 2 ^ 62 → 2 * k < n → s + 2 * k < 100 → fX8_shorten_l13 K h n (lN a) (lN b) (nI s) = K (lN (Nat.gcd a b)) := by
  intro k
  induction k with
  | zero =>
    intro a b n s hb ha hb2 hn hs
    have : b = 0 := by rw [Nat.pow_zero] at hb; omega
    obtain ⟨m, rfl⟩ : ∃ m, n = m + 1 := ⟨n - 1, by omega⟩
    show fX8_shorten_l13b _ K h (lN a) (lN b) (nI s) = _
    unfold fX8_shorten_l13b
    rw [if_pos (show nI s < 100 from nI_lt (b := 100) (by omega) (by decide)), lg_z hb2, if_pos this, if_pos rfl, this, Nat.gcd_zero_right]
  | succ k ih =>
    intro a b n s hb ha hb2 hn hs
    obtain ⟨m, rfl⟩ : ∃ m, n = m + 1 + 1 := ⟨n - 2, by omega⟩
    show fX8_shorten_l13b (fX8_shorten_l13 K h (m + 1)) K h (lN a) (lN b) (nI s) = _
    unfold fX8_shorten_l13b
    rw [if_pos (show nI s < 100 from nI_lt (b := 100) (by omega) (by decide))]
    by_cases e : b = 0
    · rw [lg_z hb2, if_pos e, if_pos rfl, e, Nat.gcd_zero_right]
    · have hr := Nat.mod_lt a (show 0 < b by omega)
      have er : jremL (lN a) (lN b) = lN (a % b) := pk_lRem (by omega) (by omega) (by omega)
      rw [lg_z hb2, if_neg e, if_neg (by decide), if_neg (lN_nz hb2 e), er, gcd_step a b, nI_1]
      show fX8_shorten_l13b (fX8_shorten_l13 K h m) K h (lN b) (lN (a % b)) (nI (s + 1)) = _
      unfold fX8_shorten_l13b
      rw [if_pos (show nI (s + 1) < 100 from nI_lt (b := 100) (by omega) (by decide))]
      by_cases e2 : a % b = 0
      · rw [lg_z (by omega), if_pos e2, if_pos rfl, e2, Nat.gcd_zero_right]
      · have hh := half_rem (b := b) (r := a % b) (by omega) hr
        have er2 : jremL (lN b) (lN (a % b)) = lN (b % (a % b)) := pk_lRem (by omega) (by omega) (by omega)
        rw [lg_z (by omega), if_neg e2, if_neg (by decide), if_neg (lN_nz (by omega) e2), er2, gcd_step b (a % b), nI_1]
        refine ih (a % b) (b % (a % b)) m (s + 1 + 1) ?_ (by omega) (by omega) (by omega) (by omega)
        rw [Nat.pow_succ] at hb
        omega
/-- time, above, below before place k -/
def oS (t w : Nat → Nat) (N k : Nat) : Nat × Nat × Nat := itf (fun j s => (s.1 + t (oN t w N j), s.2.1 + (s.1 + t (oN t w N j)) * w (oN t w N j), s.2.2 + w (oN t w N j))) 0 k (0, 0, 0)
theorem oS_succ {t w : Nat → Nat} {N k : Nat} : oS t w N (k + 1) = ((oS t w N k).1 + t (oN t w N k), (oS t w N k).2.1 + ((oS t w N k).1 + t (oN t w N k)) * w (oN t w N k), (oS t w N k).2.2 + w (oN t w N k)) := by
  unfold oS
  rw [itf_last, Nat.zero_add]
theorem oS_le {t w : Nat → Nat} {N : Nat} (ht : ∀ i, i < N → t i ≤ 99) (hw : ∀ i, i < N → w i ≤ 99) (hN : N ≤ 20) : ∀ k, k ≤ N → (oS t w N k).1 ≤ k * 99 ∧ (oS t w N k).2.1 ≤ k * 200000 ∧ (oS t w N k).2.2 ≤ k * 99 ∧ ((oS t w N k).2.2 = 0 → (oS t w N k).2.1 = 0) := by
  intro k
  induction k with
  | zero => intro _; exact ⟨Nat.le_refl _, Nat.le_refl _, Nat.le_refl _, fun _ => rfl⟩
  | succ k ih =>
    intro hk
    obtain ⟨h1, h2, h3, h4⟩ := ih (by omega)
    have hl := (fst_some ((oN_spec (t := t) (w := w) (N := N) k (by omega)).2 (by omega))).2.1
    have a1 := ht _ (show oN t w N k < N by omega)
    have a2 := hw _ (show oN t w N k < N by omega)
    rw [oS_succ]
    generalize oS t w N k = s at h1 h2 h3 h4
    have a3 : (s.1 + t (oN t w N k)) * w (oN t w N k) ≤ 1980 * 99 := Nat.mul_le_mul (by omega) a2
    refine ⟨?_, ?_, ?_, fun z => ?_⟩
    · show s.1 + t (oN t w N k) ≤ _; omega
    · show s.2.1 + (s.1 + t (oN t w N k)) * w (oN t w N k) ≤ _; omega
    · show s.2.2 + w (oN t w N k) ≤ _; omega
    · have z' : s.2.2 + w (oN t w N k) = 0 := z
      have z1 : w (oN t w N k) = 0 := by omega
      show s.2.1 + (s.1 + t (oN t w N k)) * w (oN t w N k) = 0
      rw [z1, Nat.mul_zero, h4 (by omega)]
theorem rank22 {N M x : Nat} {h g : AH} {t w : Nat → Nat} {K : AH → Option AH} (H : ScN N M x h) (ht : ∀ i, i < N → t i ≤ 99) (hw : ∀ i, i < N → w i ≤ 99) (c : Core h g) (R : ∀ i, i < N → g.1 68 i = nI (t i) ∧ g.1 69 i = nI (w i)) (a0 : g.2 67 3 = lN 0) (b0 : g.2 67 4 = lN 0) : ∃ g', fX8_rank_l22 K (nI N) fuel0 (jshl 1 (nI N) - 1) 0 0 g = K g' ∧ Core h g' ∧ (∀ i, i < N → g'.1 70 i = nI (oN t w N i)) ∧ g'.2 67 3 = lN (oS t w N N).2.1 ∧ g'.2 67 4 = lN (oS t w N N).2.2 := by
  have hN := H.N
  obtain ⟨s, e, -, -, q⟩ := for_ex (F := fun m xx (s : Int32 × Int64 × AH) => fX8_rank_l22 K (nI N) m s.1 s.2.1 xx s.2.2) (fun s => K s.2.2) N (by omega) (fun k s => s.1 = nI (bs (oL t w N k) N) ∧ s.2.1 = lN (oS t w N k).1 ∧ Core h s.2.2 ∧ (∀ i, i < k → s.2.2.1 70 i = nI (oN t w N i)) ∧ s.2.2.2 67 3 = lN (oS t w N k).2.1 ∧ s.2.2.2 67 4 = lN (oS t w N k).2.2 ∧ ∀ i, i < N → s.2.2.1 68 i = nI (t i) ∧ s.2.2.1 69 i = nI (w i)) (fun m k s hk hI => by
      obtain ⟨a, b, g⟩ := s
      obtain ⟨ea, eb, cg, q70, q3, q4, R⟩ := hI
      dsimp only at ea eb cg q70 q3 q4 R
      subst ea eb
      show ∃ s', fX8_rank_l22b (fX8_rank_l22 K (nI N) m) K (nI N) (nI (bs (oL t w N k) N)) (lN (oS t w N k).1) (nI k) g = _ ∧ _
      unfold fX8_rank_l22b
      have hf := (oN_spec (t := t) (w := w) k (by omega)).2 hk
      have hl : oN t w N k < N := by have := (fst_some hf).2.1; omega
      have a1 := ht _ hl
      have a2 := hw _ hl
      dsimp only [letT]
      rw [if_pos (nI_lt hk (by omega)), lowest_eq hN ht hw R hf, ob, put_in (show k < aln 70 by show _ < 20; omega)]
      have p68 : (sI g 70 k (nI (oN t w N k))).1 68 = g.1 68 := sI_ne _ _ _ (by decide)
      have p69 : (sI g 70 k (nI (oN t w N k))).1 69 = g.1 69 := sI_ne _ _ _ (by decide)
      have r68 : fX11_at 68 (nI (oN t w N k)) (sI g 70 k (nI (oN t w N k))) = nI (t (oN t w N k)) := by
        rw [at_in (show oN t w N k < aln 68 by show _ < 20; omega), p68]; exact (R _ hl).1
      have r69 : ∀ g' : AH, g'.1 69 = g.1 69 → fX11_at 69 (nI (oN t w N k)) g' = nI (w (oN t w N k)) := fun g' eg => by
        rw [at_in (show oN t w N k < aln 69 by show _ < 20; omega), eg]; exact (R _ hl).2
      rw [r68, r69 _ p69, nI_l (by omega), nI_l (by omega), lN_add, lN_mul, r69 _ (by exact p69), nI_l (by omega), show (fX11_bit (nI (oN t w N k)) g) = jshl 1 (nI (oN t w N k)) from rfl, bs_drop hN hl, nI_1]
      refine ⟨(_, _, _), rfl, rfl, ?_, ?_, ?_, ?_, ?_, ?_⟩
      · rw [oS_succ]; rfl
      · exact ((cg.tr (Core.sR (a := 70) rfl)).tr Core.sJ).tr Core.sJ
      · intro i hi
        show upd (g.1 70) k _ i = _
        by_cases ei : i = k
        · rw [ei, upd_at]
        · rw [upd_ne _ _ ei]; exact q70 i (by omega)
      · show g.2 67 3 + _ = _
        rw [q3, lN_add, oS_succ]
      · show g.2 67 4 + _ = _
        rw [q4, lN_add, oS_succ]
      · exact R) (fun m s hI => by
      show fX8_rank_l22b (fX8_rank_l22 K (nI N) m) K (nI N) s.1 s.2.1 (nI N) s.2.2 = _
      unfold fX8_rank_l22b
      rw [if_neg (nI_nlt (Nat.le_refl _) (by omega))]) fuel0 0 (jshl 1 (nI N) - 1, 0, g) (by omega) (by have := fuel_big; omega) ⟨bs_all hN, rfl, c, fun i hi => absurd hi (Nat.not_lt_zero _), a0, b0, R⟩
  exact ⟨s.2.2, e, q.1, q.2.1, q.2.2.1, q.2.2.2.1⟩
