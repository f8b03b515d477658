theorem au_same {N M x k i v : Nat} {h : AH} {B T T' : Rw} (H : ScN N M x h) (hT : eqOn N T T') (hcl : Cl N M T) (hi : i < N) (hv : v < M) : auA (mX h) N M k B T i v ↔ ∀ c, c < k → cmM (mM h) N M (cpr B N c) (slp (mM h) N i (nI v) T') := by
  have eS : eqOn N (slp (mX h) N i (nI v) T) (slp (mM h) N i (nI v) T') := H.slpE hi hT
  have clS : Cl N M (slp (mX h) N i (nI v) T) := slp_cl H.WX.2 hi hcl ⟨v, hv, rfl⟩
  unfold auA
  generalize slp (mX h) N i (nI v) T = S at eS clS
  generalize slp (mM h) N i (nI v) T' = S' at eS
  constructor
  · rintro ⟨h1, h2⟩ c hc f hf hne hb
    refine ⟨h1 c hc f hf, fun j j1 j2 => ?_⟩
    rw [h2 c hc f hf (by rw [eS f hf]; exact hne) (fun i hi => by rw [eS i (by omega)]; exact hb i hi) j j1 j2]
    exact H.same j2 .rf
  · intro h1
    refine ⟨fun c hc => ?_, fun c hc f hf hne hb j j1 j2 => ?_⟩
    · have key : ∀ j, j < N → clm M (cpr B N c j) := by
        intro j
        induction j using Nat.strongRecOn with
        | ind j ih =>
          intro hj
          cases hfs : fst (fun l => !decide (cpr B N c l = S l)) 0 N with
          | none =>
            have := fst_none hfs j (Nat.zero_le _) (by omega)
            have e : cpr B N c j = S j := by simpa using this
            rw [e]
            exact clS j hj
          | some f =>
            obtain ⟨-, j2, j3, j4⟩ := fst_some hfs
            have j3' : ¬ cpr B N c f = S f := by simpa using j3
            have j4' : ∀ i, i < f → cpr B N c i = S i := fun i hi => by simpa using j4 i (Nat.zero_le _) hi
            obtain ⟨a1, a2⟩ := h1 c hc f (by omega) (by rw [← eS f (by omega)]; exact j3') (fun i hi => by rw [← eS i (by omega)]; exact j4' i hi)
            rcases Nat.lt_trichotomy j f with a | a | a
            · rw [j4' j a]
              exact clS j hj
            · rw [a]; exact a1
            · rw [a2 j a hj, ← H.same hj .rf]
              exact mk_cl H.WX.2 hj (fun i hi => ih i hi (by omega))
      exact key
    · rw [(h1 c hc f hf (by rw [← eS f hf]; exact hne) (fun i hi => by rw [← eS i (by omega)]; exact hb i hi)).2 j j1 j2]
      exact (H.same j2 .rf).symm
theorem st_author (p q : Int32) {h : AH} (I : Inv h) : St (xo_author p q) (mo_author p q) h := by
  obtain ⟨⟨N, M, x, H⟩, hk, ⟨T0, t1, t2, t3, t4⟩, n, hL⟩ := id I
  have hN := H.N
  have hM := H.M97
  by_cases c1 : p < 1
  · refine St.ro (r := -1) I ?_ .rf ?_ .rf
    · unfold xo_author fX11_author
      rw [if_pos c1]
    · unfold mo_author fX12_author
      rw [in_no (Or.inl c1), if_pos rfl]
  by_cases c2 : (5 : Int32) < p
  · refine St.ro (r := -1) I ?_ .rf ?_ .rf
    · unfold xo_author fX11_author
      rw [if_neg c1, if_pos c2]
    · unfold mo_author fX12_author
      rw [in_no (Or.inr c2), if_pos rfl]
  by_cases c3 : q < 0
  · refine St.ro (r := -1) I ?_ .rf ?_ .rf
    · unfold xo_author fX11_author
      rw [if_neg c1, if_neg c2, if_pos c3]
    · unfold mo_author fX12_author
      rw [in_yes c1 c2, if_neg (by decide), in_no (Or.inl c3), if_pos rfl]
  by_cases c4 : (2 : Int32) < q
  · refine St.ro (r := -1) I ?_ .rf ?_ .rf
    · unfold xo_author fX11_author
      rw [if_neg c1, if_neg c2, if_neg c3, if_pos c4]
    · unfold mo_author fX12_author
      rw [in_yes c1 c2, if_neg (by decide), in_no (Or.inr c4), if_pos rfl]
  by_cases c5 : N = 0
  · refine St.ro (r := -1) I ?_ .rf ?_ .rf
    · unfold xo_author fX11_author
      rw [if_neg c1, if_neg c2, if_neg c3, if_neg c4, H.sX, if_pos (by rw [c5]; rfl)]
    · unfold mo_author fX12_author
      rw [in_yes c1 c2, if_neg (by decide), in_yes c3 c4, if_neg (by decide), H.sM, if_pos (by rw [c5]; rfl)]
  have n0 : ¬ nI N = 0 := ne_lit (j := 0) (by omega) (by decide) c5
  have p0 : ¬ p < 0 := fun a => c1 (Int32.lt_trans a (by decide))
  obtain ⟨k, hk0, rfl⟩ := nI_of p0
  obtain ⟨w, hw0, rfl⟩ := nI_of c3
  have k5 : k ≤ 5 := by
    by_cases a : k ≤ 5
    · exact a
    · exact absurd (nI_lt (a := 5) (b := k) (by omega) hk0) c2
  have k1 : 1 ≤ k := by
    by_cases a : 1 ≤ k
    · exact a
    · exact absurd (nI_lt (a := k) (b := 1) (by omega) (by decide)) c1
  have w2 : w ≤ 2 := by
    by_cases a : w ≤ 2
    · exact a
    · exact absurd (nI_lt (a := 2) (b := w) (by omega) hw0) c4
  have hk100 : k * N ≤ 5 * 20 := Nat.mul_le_mul k5 hN
  by_cases c6 : T0 < k * N
  · refine St.ro (r := -1) I ?_ .rf ?_ .rf
    · unfold xo_author fX11_author
      rw [if_neg c1, if_neg c2, if_neg c3, if_neg c4, H.sX, if_neg n0, t2, nI_mul, if_pos (nI_lt c6 (by omega))]
    · unfold mo_author fX12_author
      rw [in_yes c1 c2, if_neg (by decide), in_yes c3 c4, if_neg (by decide), H.sM, if_neg n0, t3, nI_mul, if_pos (nI_lt c6 (by omega))]
  obtain ⟨h1, r, eX, cx, fr⟩ := authorX H k1 k5 w2 (by omega) t1 t2 (by omega) rfl
  have Hx : ScN N M x (sI h 1 1 0) := H
  have H1 := Hx.core cx
  obtain ⟨h2, eM, cm⟩ := authorM (B := h.1 2) (T0 := T0) H1.WM k1 k5 w2 (by omega) t1 (by rw [cx.P 75 10 (by decide)]; exact t3) (by omega) (fun j hj => by
    obtain ⟨b, -, e1, e2⟩ := t4 j (by omega)
    rw [cx.C 82 (by decide)]
    exact e2.trans e1.symm)
  have em : mM h1 = mM h := (mM_core cx).trans rfl
  rw [em] at eM
  have hNM : N * M ≤ 20 * 97 := Nat.mul_le_mul hN hM.2
  have eQ : ∀ c, c < N * M → auM (mM h) N M k (h.1 2) (wk (mM h) 0 N (h1.1 87)) c = auQ (mX h) N M k (h.1 2) (wk (mX h) 0 N (h.1 49)) c := fun c hc => by
    have hi : c / M < N := Nat.div_lt_of_lt_mul (by rw [Nat.mul_comm]; exact hc)
    have hT := H.tr (h.1 49) (h1.1 87)
    unfold auM auQ
    rw [← hT (c / M) hi, pb_cong (au_same H hT (tr_cl H.WX.2) hi (Nat.mod_lt _ (by omega)))]
  rw [ct_cong eQ, fst_cong (fun c _ hc => eQ c (by omega))] at eM
  generalize auQ (mX h) N M k (h.1 2) (wk (mX h) 0 N (h.1 49)) = Q at fr eM
  obtain ⟨f0, f1, f2, -⟩ := fr.ask
  have er : (if w = 0 then nI (ct Q (N * M)) else match fst Q 0 (N * M) with | none => -2 | some c => if w = 1 then nI (c / M) else nI (c % M)) = r w := by
    have : w = 0 ∨ w = 1 ∨ w = 2 := by omega
    rcases this with rfl | rfl | rfl
    · rw [f0]; rfl
    · rw [f1]
      cases fst Q 0 (N * M) <;> rfl
    · rw [f2]
      cases fst Q 0 (N * M) <;> rfl
  refine ⟨r w, h1, h2, eX, eM.trans (congrArg (fun a => some (a, h2)) er), ?_⟩
  have J : Inv (sI (sI h 1 1 0) 75 10 0) := ⟨⟨N, M, x, H⟩, hk, ⟨0, by omega, rfl, rfl, t4⟩, n, hL⟩
  exact J.core ((coreCongI cx (Or.inr rfl)).tr cm)
