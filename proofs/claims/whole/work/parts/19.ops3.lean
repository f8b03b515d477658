theorem coreCong {h g : AH} {a : Nat} {r : Rw} (k : Core h g) : Core (sR h a r) (sR g a r) := by
  refine ⟨fun c hc => ?_, fun q hq => ?_⟩
  · by_cases e : c = a
    · rw [e, sR_at, sR_at]
    · rw [sR_ne _ _ e, sR_ne _ _ e]; exact k.1 c hc
  · by_cases e : q.1 = a
    · rw [e, sR_at, sR_at]
    · rw [sR_ne _ _ e, sR_ne _ _ e]; exact k.2 q hq
theorem coreCongI {h g : AH} {a j : Nat} {v : Int32} (k : Core h g) (ha : coreC.contains a = true ∨ coreS.contains (a, j) = true) : Core (sI h a j v) (sI g a j v) := by
  refine ⟨fun c hc => ?_, fun q hq => ?_⟩
  · by_cases e : c = a
    · rw [e, sI_at, sI_at, k.1 a (e ▸ hc)]
    · rw [sI_ne _ _ _ e, sI_ne _ _ _ e]; exact k.1 c hc
  · by_cases e : q.1 = a
    · rw [e, sI_at, sI_at]
      by_cases e2 : q.2 = j
      · rw [e2, upd_at, upd_at]
      · rw [upd_ne _ _ e2, upd_ne _ _ e2, ← e]; exact k.2 q hq
    · rw [sI_ne _ _ _ e, sI_ne _ _ _ e]; exact k.2 q hq
theorem jrem_nI {a d : Nat} (ha : a < 2 ^ 31) (h0 : 0 < d) (hd : d < 2 ^ 31) : jrem (nI a) (nI d) = nI (a % d) := pk_rem ha h0 hd
theorem nI_mul (a b : Nat) : nI a * nI b = nI (a * b) := by
  apply Int32.toBitVec_inj.mp
  show (nI a).toBitVec * (nI b).toBitVec = (nI (a * b)).toBitVec
  rw [nI_bv, nI_bv, nI_bv, BitVec.ofNat_mul]
/-- what a rule makes of claims is a claim -/
theorem mk_cl {N M i : Nat} {m : Int32} {A K F S r : Rw} (w : Wr N M m A K F S) (hi : i < N) (hr : Cl i M r) : ∃ v, v < M ∧ mk m A K F S r i = nI v := by
  obtain ⟨hN, hm, m1, m2, hA, hl⟩ := w
  unfold mk
  rcases hl i hi with ⟨h0, ⟨f, hf, ef⟩, -⟩ | ⟨h0, ⟨f, hf, ef⟩, -⟩ | ⟨h0, ⟨f, hf, ef⟩, g, hg, eg⟩
  · rw [if_pos h0, ef, nI_clamp (by omega)]
    exact hA f hf
  · obtain ⟨u, hu, eu⟩ := hr f hf
    have hc : (nI f).toNatClampNeg = f := nI_clamp (by omega)
    rcases h0 with h0 | h0
    · simp only [h0, ef, hc, eu, d10, if_false, if_true]
      exact ⟨u, hu, rfl⟩
    · simp only [h0, ef, hc, eu, hm, d20, d21, if_false, if_true]
      rw [nI_sub (by omega), jrem_nI (by omega) (by omega) (by omega)]
      exact ⟨_, Nat.mod_lt _ (by omega), rfl⟩
  · obtain ⟨u, hu, eu⟩ := hr f hf
    obtain ⟨v, hv, ev⟩ := hr g hg
    have hc : (nI f).toNatClampNeg = f := nI_clamp (by omega)
    have hd : (nI g).toNatClampNeg = g := nI_clamp (by omega)
    rcases h0 with h0 | h0
    · simp only [h0, ef, eg, hc, hd, eu, ev, hm, d30, d31, d32, if_false, if_true]
      rw [nI_add, jrem_nI (by omega) (by omega) (by omega)]
      exact ⟨_, Nat.mod_lt _ (by omega), rfl⟩
    · simp only [h0, ef, eg, hc, hd, eu, ev, hm, d40, d41, d42, d43, if_false]
      have : u * v < 97 * 97 := Nat.mul_lt_mul_of_lt_of_lt (by omega) (by omega)
      rw [nI_mul, jrem_nI (by omega) (by omega) (by omega)]
      exact ⟨_, Nat.mod_lt _ (by omega), rfl⟩
theorem wk_cl {N M k : Nat} {m : Int32} {A K F S r : Rw} (w : Wr N M m A K F S) (hr : Cl k M r) : ∀ {n : Nat}, k + n ≤ N → Cl (k + n) M (wk (mk m A K F S) k n r) := by
  intro n
  induction n with
  | zero => intro _; exact hr
  | succ n ih =>
    intro hn i hi
    rw [wk_last]
    by_cases e : i = k + n
    · rw [e, upd_at]
      exact mk_cl w (by omega) (ih (by omega))
    · rw [upd_ne _ _ e]
      exact ih (by omega) i (by omega)
theorem slp_cl {N M i : Nat} {m v : Int32} {A K F S r : Rw} (w : Wr N M m A K F S) (hi : i < N) (hr : Cl N M r) (hv : ∃ u, u < M ∧ v = nI u) : Cl N M (slp (mk m A K F S) N i v r) := by
  have h := wk_cl (k := i + 1) (r := upd r i v) w (fun j hj => by
    by_cases e : j = i
    · rw [e, upd_at]; exact hv
    · rw [upd_ne _ _ e]; exact hr j (by omega)) (n := N - (i + 1)) (by omega)
  have e2 : i + 1 + (N - (i + 1)) = N := by omega
  rw [e2] at h
  exact h
theorem tr_cl {N M : Nat} {m : Int32} {A K F S r : Rw} (w : Wr N M m A K F S) : Cl N M (wk (mk m A K F S) 0 N r) := by
  have h := wk_cl (k := 0) (r := r) w (fun j hj => absurd hj (Nat.not_lt_zero j)) (n := N) (by omega)
  rwa [Nat.zero_add] at h
/-- other claims on both sides -/
theorem Inv.claims {N M x : Nat} {h : AH} (I : Inv h) (H : ScN N M x h) {C C' : Rw} (hC : eqOn N C C') (hcl : Cl N M C) : Inv (sR (sR h 7 C) 77 C') ∧ ScN N M x (sR (sR h 7 C) 77 C') := by
  obtain ⟨-, hk, hT, hL⟩ := I
  obtain ⟨a1, a2, a3, a4, a5, a6, a7, a8, a9, a10, a11, a12, a13, a14, a15⟩ := H
  have H' : ScN N M x (sR (sR h 7 C) 77 C') := ⟨a1, a2, a3, a4, a5, a6, a7, a8, a9, a10, a11, hC, hcl, a14, a15⟩
  exact ⟨⟨⟨N, M, x, H'⟩, hk, hT, hL⟩, H'⟩
theorem honestM_eq {N M : Nat} {g : AH} (w : WM N M g) : ∃ r, mo_honest g = some (nI (ct (df (g.1 77) (wk (mM g) 0 N (g.1 87))) N), sR (sR g 87 (wk (mM g) 0 N (g.1 87))) 77 r) ∧ eqOn N r (wk (mM g) 0 N (g.1 87)) := by
  have hN := w.N
  unfold mo_honest fX12_honest
  rw [laysTruth_eq w, ob]
  have hs : (sR g 87 (wk (mM g) 0 N (g.1 87))).1 75 2 = nI N := (w.sR (by unfold offM; omega)).1
  have e7 : (sR g 87 (wk (mM g) 0 N (g.1 87))).1 77 = g.1 77 := sR_ne _ _ (by decide)
  have e8 : (sR g 87 (wk (mM g) 0 N (g.1 87))).1 87 = wk (mM g) 0 N (g.1 87) := sR_at _ _ _
  generalize sR g 87 (wk (mM g) 0 N (g.1 87)) = g2 at hs e7 e8 ⊢
  let stp : Nat → Nat × Rw → Nat × Rw := fun k s => (s.1 + (df s.2 (g2.1 87) k).toNat, upd s.2 k (g2.1 87 k))
  have key := for_up0 (F := fun m x (s : Nat × Rw) => fX12_honest_l8 m (nI s.1) x (sR g2 77 s.2)) stp (fun s => some (nI s.1, sR g2 77 s.2)) N (by omega) (fun m k s hk => by
      show fX12_honest_l8b (fX12_honest_l8 m) (nI s.1) (nI k) (sR g2 77 s.2) = _
      unfold fX12_honest_l8b
      dsimp only [letT]
      have gk := gd (show k < 20 by omega) (by decide)
      rw [sR_ne _ _ (by decide), hs, if_pos (nI_lt hk (by omega)), if_neg gk, if_neg gk, if_neg gk, if_neg gk, if_neg gk, if_neg gk, nI_clamp (by omega), nI_1, sR_at, sR_ne _ _ (by decide), sI_R]
      by_cases e : s.2 k = g2.1 87 k
      · rw [if_pos e]
        have : (df s.2 (g2.1 87) k).toNat = 0 := by simp [df, e]
        show fX12_honest_l8 m (nI s.1 + 0) _ _ = fX12_honest_l8 m (nI (s.1 + (df s.2 (g2.1 87) k).toNat)) _ _
        rw [this, Int32.add_zero]
        rfl
      · rw [if_neg e]
        have : (df s.2 (g2.1 87) k).toNat = 1 := by simp [df, e]
        show fX12_honest_l8 m (nI s.1 + 1) _ _ = fX12_honest_l8 m (nI (s.1 + (df s.2 (g2.1 87) k).toNat)) _ _
        rw [this, nI_1]) (fun m s => by
      show fX12_honest_l8b (fX12_honest_l8 m) (nI s.1) (nI N) (sR g2 77 s.2) = _
      unfold fX12_honest_l8b
      rw [sR_ne _ _ (by decide), hs, if_neg (nI_nlt (Nat.le_refl _) (by omega))]) fuel0 0 (0, g2.1 77) (by omega) (by have := fuel_big; omega)
  rw [Nat.sub_zero, sR_self] at key
  have inv : ∀ k, (itf stp 0 k (0, g2.1 77)).1 = ct (df (g2.1 77) (g2.1 87)) k ∧ ∀ j, (itf stp 0 k (0, g2.1 77)).2 j = if j < k then g2.1 87 j else g2.1 77 j := by
    intro k
    induction k with
    | zero => exact ⟨rfl, fun j => (if_neg (Nat.not_lt_zero j)).symm⟩
    | succ k ih =>
      rw [itf_last, Nat.zero_add, ct_succ]
      refine ⟨?_, fun j => ?_⟩
      · show (itf stp 0 k (0, g2.1 77)).1 + (df (itf stp 0 k (0, g2.1 77)).2 (g2.1 87) k).toNat = _
        rw [ih.1]
        congr 2
        unfold df
        rw [ih.2 k, if_neg (Nat.lt_irrefl k)]
      · show upd (itf stp 0 k (0, g2.1 77)).2 k (g2.1 87 k) j = _
        by_cases e : j = k
        · rw [e, upd_at, if_pos (by omega)]
        · rw [upd_ne _ _ e, ih.2 j]
          by_cases c : j < k
          · rw [if_pos c, if_pos (by omega)]
          · rw [if_neg c, if_neg (by omega)]
  refine ⟨(itf stp 0 N (0, g2.1 77)).2, ?_, fun j hj => ?_⟩
  · rw [← e7, ← e8, ← (inv N).1]
    exact key
  · rw [(inv N).2 j, if_pos hj, e8]
theorem bs_bit_ct {N : Nat} {r r' t t' : Rw} (h1 : eqOn N r r') (h2 : eqOn N t t') : ct (df r' t') N = ct (df r t) N := ct_cong (fun i hi => (df_cong h1 h2 i hi).symm)
theorem st_honest {h : AH} (I : Inv h) : St xo_honest mo_honest h := by
  obtain ⟨⟨N, M, x, H⟩, -⟩ := id I
  have hN := H.N
  let T : Rw := wk (mX h) 0 N (h.1 49)
  let C : Rw := fun i => if i < min (aln 49) (aln 7) then (sR h 49 T).1 49 i else (sR h 49 T).1 7 i
  have hCT : eqOn N C T := fun i hi => by
    show (if i < min (aln 49) (aln 7) then (sR h 49 T).1 49 i else _) = _
    rw [if_pos (show i < min (aln 49) (aln 7) from (by show i < 20; omega)), sR_at]
  have c1 : Core h (sR h 49 T) := Core.sR rfl
  have hX : xo_honest h = some (nI (ct (df (h.1 7) T) N), sR (sR h 49 T) 7 C) := by
    unfold xo_honest fX11_honest
    rw [truth_eq H.WX off49 (by decide), ob]
    show (fX11_differing 7 49 ((sR h 49 T).1 6 0) (sR h 49 T)).bind _ = _
    rw [sR_ne _ _ (by decide), H.sX, differing_eq hN (by decide) (by decide), ob, copyRow_eq (by decide), ob, bitCount_bs hN, sR_at, sR_ne _ _ (by decide)]
    rfl
  -- the model, behind the class
  have hM0 : WM N M (sR (sR h 49 T) 7 C) := ((H.core c1).WM).sR (by unfold offM; omega)
  obtain ⟨r, hr1, hr2⟩ := honestM_eq hM0
  have e77 : (sR (sR h 49 T) 7 C).1 77 = h.1 77 := rfl
  have emM : mM (sR (sR h 49 T) 7 C) = mM h := rfl
  rw [e77, emM] at hr1
  rw [emM] at hr2
  generalize ((sR (sR h 49 T) 7 C).1 87) = z at hr1 hr2
  have hTr : eqOn N T (wk (mM h) 0 N z) := H.tr _ _
  rw [bs_bit_ct H.C hTr] at hr1
  refine ⟨_, _, _, hX, hr1, ?_⟩
  · have hcl : Cl N M C := fun i hi => by
      rw [hCT i hi]
      exact tr_cl H.WX.2 i hi
    have I2 := (I.claims H (C := C) (C' := r) ((hCT.tr hTr).tr hr2.sy) hcl).1
    refine I2.core ?_
    exact (coreCong (coreCong c1)).tr (coreCong (Core.sR rfl))
