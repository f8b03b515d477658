/-! ===== modulus, feed ===== -/
theorem modX_eq {M : Nat} {h : AH} (m1 : 2 ≤ M) (m2 : M ≤ 97) : ∃ r, xo_modulus (nI M) h = some (1, sR (sI (sI h 3 0 (nI M)) 6 0 0) 4 r) ∧ ∀ a, a < 10 → r a = jrem (h.1 4 a) (nI M) := by
  have hmp := nI_m m1 m2
  obtain ⟨g, eg⟩ : ∃ g, g = sI (sI h 3 0 (nI M)) 6 0 0 := ⟨_, rfl⟩
  have e3 : g.1 3 0 = nI M := by rw [eg]; rfl
  have e4 : g.1 4 = h.1 4 := by rw [eg]; rfl
  let stp : Nat → Rw → Rw := fun k r => upd r k (jrem (r k) (nI M))
  have key := for_up0 (F := fun m x r => fX9_reckonBy_l14 m x (sR g 4 r)) stp (fun r => some (sR g 4 r)) 10 (by decide) (fun m k r hk => by
      show fX9_reckonBy_l14b (fX9_reckonBy_l14 m) (nI k) (sR g 4 r) = _
      unfold fX9_reckonBy_l14b fX9_modulo
      have : (sR g 4 r).1 3 0 = nI M := e3
      rw [if_pos (show nI k < 10 from nI_lt hk (by decide)), this, if_pos hmp.1, at_in (show k < aln 4 from hk), put_in (show k < aln 4 from hk), sR_at, sI_R, nI_1]
      rfl) (fun m r => by
      show fX9_reckonBy_l14b (fX9_reckonBy_l14 m) (nI 10) (sR g 4 r) = _
      unfold fX9_reckonBy_l14b
      rw [if_neg (by decide)]) fuel0 0 (h.1 4) (by decide) (by have := fuel_big; omega)
  have inv : ∀ k a, (itf stp 0 k (h.1 4)) a = if a < k then jrem (h.1 4 a) (nI M) else h.1 4 a := by
    intro k
    induction k with
    | zero => intro a; exact (if_neg (Nat.not_lt_zero a)).symm
    | succ k ih =>
      intro a
      rw [itf_last, Nat.zero_add]
      show upd (itf stp 0 k (h.1 4)) k (jrem (itf stp 0 k (h.1 4) k) (nI M)) a = _
      by_cases e : a = k
      · rw [e, upd_at, ih k, if_neg (Nat.lt_irrefl k), if_pos (by omega)]
      · rw [upd_ne _ _ e, ih a]
        by_cases c : a < k
        · rw [if_pos c, if_pos (by omega)]
        · rw [if_neg c, if_neg (by omega)]
  refine ⟨itf stp 0 10 (h.1 4), ?_, fun a ha => by rw [inv 10 a, if_pos ha]⟩
  unfold xo_modulus fX11_modulus fX9_reckonBy fX6_clear
  dsimp only [letT]
  rw [if_neg (show ¬ nI M < (2 : Int32) from nI_nlt (b := 2) m1 (by omega)), if_neg (show ¬ (97 : Int32) < nI M from nI_nlt (a := 97) m2 (by omega)), ← eg]
  have e0 : sR g 4 (h.1 4) = g := by rw [← e4, sR_self]
  have key2 : fX9_reckonBy_l14 fuel0 0 (sR g 4 (h.1 4)) = some (sR g 4 (itf stp 0 10 (h.1 4))) := key
  rw [e0] at key2
  rw [key2, ob]
theorem modM_eq {M : Nat} {h : AH} (m1 : 2 ≤ M) (m2 : M ≤ 97) : ∃ r, mo_modulus (nI M) h = some (1, sR (sI (sI h 75 0 (nI M)) 75 2 0) 76 r) ∧ ∀ a, a < 10 → r a = jrem (h.1 76 a) (nI M) := by
  have hmp := nI_m m1 m2
  obtain ⟨g, eg⟩ : ∃ g, g = sI (sI h 75 0 (nI M)) 75 2 0 := ⟨_, rfl⟩
  have e4 : g.1 76 = h.1 76 := by rw [eg]; rfl
  let stp : Nat → Rw → Rw := fun k r => upd r k (jrem (r k) (nI M))
  have key := for_up0 (F := fun m x r => fX12_modulus_l24 (nI M) m x (sR g 76 r)) stp (fun r => some (1, sR g 76 r)) 10 (by decide) (fun m k r hk => by
      show fX12_modulus_l24b (fX12_modulus_l24 (nI M) m) (nI M) (nI k) (sR g 76 r) = _
      unfold fX12_modulus_l24b
      have gk := gd hk (by decide)
      rw [if_pos (show nI k < 10 from nI_lt hk (by decide)), if_neg gk, if_neg hmp.2, if_neg gk, nI_clamp (by omega), sR_at, sI_R, nI_1]
      rfl) (fun m r => by
      show fX12_modulus_l24b (fX12_modulus_l24 (nI M) m) (nI M) (nI 10) (sR g 76 r) = _
      unfold fX12_modulus_l24b
      rw [if_neg (by decide)]) fuel0 0 (h.1 76) (by decide) (by have := fuel_big; omega)
  have inv : ∀ k a, (itf stp 0 k (h.1 76)) a = if a < k then jrem (h.1 76 a) (nI M) else h.1 76 a := by
    intro k
    induction k with
    | zero => intro a; exact (if_neg (Nat.not_lt_zero a)).symm
    | succ k ih =>
      intro a
      rw [itf_last, Nat.zero_add]
      show upd (itf stp 0 k (h.1 76)) k (jrem (itf stp 0 k (h.1 76) k) (nI M)) a = _
      by_cases e : a = k
      · rw [e, upd_at, ih k, if_neg (Nat.lt_irrefl k), if_pos (by omega)]
      · rw [upd_ne _ _ e, ih a]
        by_cases c : a < k
        · rw [if_pos c, if_pos (by omega)]
        · rw [if_neg c, if_neg (by omega)]
  refine ⟨itf stp 0 10 (h.1 76), ?_, fun a ha => by rw [inv 10 a, if_pos ha]⟩
  unfold mo_modulus fX12_modulus
  dsimp only [letT]
  rw [in_yes (show ¬ nI M < (2 : Int32) from nI_nlt (b := 2) m1 (by omega)) (show ¬ (97 : Int32) < nI M from nI_nlt (a := 97) m2 (by omega)), if_neg (by decide), ← eg]
  have e0 : sR g 76 (h.1 76) = g := by rw [← e4, sR_self]
  have key2 : fX12_modulus_l24 (nI M) fuel0 0 (sR g 76 (h.1 76)) = some (1, sR g 76 (itf stp 0 10 (h.1 76))) := key
  rw [e0] at key2
  exact key2
theorem st_modulus (p : Int32) {h : AH} (I : Inv h) : St (xo_modulus p) (mo_modulus p) h := by
  obtain ⟨⟨N, M, x, H⟩, hk, ⟨T, hT⟩, n, hL⟩ := id I
  by_cases c1 : p < 2
  · refine St.ro (r := 0) I ?_ .rf ?_ .rf
    · unfold xo_modulus fX11_modulus
      rw [if_pos c1]
    · unfold mo_modulus fX12_modulus
      rw [in_no (Or.inl c1), if_pos rfl]
  · by_cases c2 : (97 : Int32) < p
    · refine St.ro (r := 0) I ?_ .rf ?_ .rf
      · unfold xo_modulus fX11_modulus
        rw [if_neg c1, if_pos c2]
      · unfold mo_modulus fX12_modulus
        rw [in_no (Or.inr c2), if_pos rfl]
    · have c0 : ¬ p < 0 := fun q => c1 (fa_trans q (by decide))
      obtain ⟨m, hm, rfl⟩ := nI_of c0
      have m1 : 2 ≤ m := by
        by_cases q : 2 ≤ m
        · exact q
        · exact absurd (nI_lt (a := m) (b := 2) (by omega) (by decide)) c1
      have m2 : m ≤ 97 := by
        by_cases q : m ≤ 97
        · exact q
        · exact absurd (nI_lt (a := 97) (b := m) (by omega) hm) c2
      obtain ⟨r, hX, hr⟩ := modX_eq (h := h) m1 m2
      generalize eg : sR (sI (sI h 3 0 (nI m)) 6 0 0) 4 r = g at hX
      obtain ⟨s, hM, hs⟩ := modM_eq (h := g) m1 m2
      refine ⟨_, _, _, hX, hM, ⟨0, m, x, ?_⟩, ?_, ⟨T, ?_⟩, n, ?_⟩
      · obtain ⟨a1, a2, a3, a4, a5, a6, ⟨w1, w2, w3, w4, w5, w6⟩, a8, a9, a10, a11, a12, a13, a14, a15⟩ := H
        have es : ∀ a, a < 10 → s a = jrem (h.1 76 a) (nI m) := fun a ha => by rw [hs a ha, ← eg]; rfl
        subst eg
        refine ⟨rfl, rfl, rfl, a4, a5, a6, ⟨by omega, rfl, m1, m2, fun a ha => ?_, fun i hi => absurd hi (Nat.not_lt_zero i)⟩, fun a ha => ?_, fun i hi => absurd hi (Nat.not_lt_zero i), fun i hi => absurd hi (Nat.not_lt_zero i), fun i hi => absurd hi (Nat.not_lt_zero i), fun i hi => absurd hi (Nat.not_lt_zero i), fun i hi => absurd hi (Nat.not_lt_zero i), fun i hi => absurd hi (Nat.not_lt_zero i), a15⟩
        · obtain ⟨u, hu, eu⟩ := w5 a ha
          show ∃ v, v < m ∧ r a = nI v
          rw [hr a ha, eu, jrem_nI (by omega) (by omega) (by omega)]
          exact ⟨_, Nat.mod_lt _ (by omega), rfl⟩
        · show r a = s a
          rw [hr a ha, es a ha, a8 a ha]
      · rw [← eg]; exact hk
      · rw [← eg]; exact hT
      · rw [← eg]; exact hL

theorem bp_b (x : Int32) : x.toInt8.toInt32 &&& 255 = x &&& 255 := by
  apply Int32.toBitVec_inj.mp
  rw [Int32.toBitVec_and, Int32.toBitVec_and, Int8.toBitVec_toInt32, Int32.toBitVec_toInt8]
  apply BitVec.eq_of_getLsbD_eq
  intro i hi
  rw [BitVec.getLsbD_and, BitVec.getLsbD_and]
  have hm : ∀ i < 32, 8 ≤ i → (255 : Int32).toBitVec.getLsbD i = false := by decide
  rcases Nat.lt_or_ge i 8 with z | z
  · rw [BitVec.getLsbD_signExtend, BitVec.getLsbD_signExtend, if_pos z, if_pos hi]
    simp only [z, hi, decide_true, Bool.true_and]
  · rw [hm i hi z]; simp
theorem of32 (x : Int32) : ∃ n, n < 2 ^ 32 ∧ x = nI n := ⟨x.toBitVec.toNat, x.toBitVec.isLt, Int32.toBitVec_inj.mp (by show _ = BitVec.ofNat 32 _; simp)⟩
theorem and255 (x : Int32) : ∃ b, b < 256 ∧ x &&& 255 = nI b := by
  obtain ⟨n, -, rfl⟩ := of32 x
  exact ⟨n % 2 ^ 8, Nat.mod_lt _ (by decide), fa_mask n 8⟩
theorem nar_byte (x : Int32) : vp_nar .byte (ji2b x) &&& 255 = x &&& 255 := by
  show (ji2b x).toInt8.toInt32 &&& 255 = _
  rw [bp_b]
  unfold ji2b
  exact bp_b x
theorem fuel_plus (k : Nat) (hk : k < 1000) : ∃ n, fuel0 = n + k := ⟨fuel0 - k, by have := fuel_big; omega⟩
/-- the class's tape with T bytes -/
def tpX (h : AH) (T : Nat) (r : Rw) : AH := sI (sR h 2 r) 1 1 (nI T)
def tpM (h : AH) (T : Nat) (r : Rw) : AH := sI (sR h 82 r) 75 10 (nI T)
theorem sI_same {h : AH} {a j : Nat} {v : Int32} (e : h.1 a j = v) : sI h a j v = h := by
  rw [sI_sR]
  have : upd (h.1 a) j v = h.1 a := by
    funext i
    by_cases c : i = j
    · rw [c, upd_at, e]
    · rw [upd_ne _ _ c]
  rw [this, sR_self]
theorem tpX_step {h : AH} {T : Nat} {r : Rw} {v x : Int32} {rec : Int32 → AH → Option AH} (hT : T < 220) (hx : ¬ x < 0) : fX10_append_l3b rec v x (tpX h T r) = rec (x + (-8)) (tpX h (T + 1) (upd r T ((jshr v x) &&& 255))) := by
  unfold fX10_append_l3b
  have e1 : (tpX h T r).1 1 1 = nI T := rfl
  rw [if_neg hx, e1, put_in (show T < aln 2 from hT)]
  dsimp only [letT]
  have e2 : (sI (tpX h T r) 2 T (jshr v x &&& 255)).1 1 1 = nI T := rfl
  rw [e2, nI_1]
  congr 1
  unfold tpX
  rw [sI_sR, sI_sR, sI_sR, sI_sR]
  refine Prod.ext ?_ rfl
  funext c
  show (if c = 1 then _ else if c = 2 then _ else if c = 1 then _ else if c = 2 then _ else _) = (if c = 1 then _ else if c = 2 then _ else _)
  by_cases c1 : c = 1
  · rw [if_pos c1, if_pos c1]
    exact upd_upd _ _ _ _
  · rw [if_neg c1, if_neg c1, if_neg c1]
    by_cases c2 : c = 2
    · rw [if_pos c2, if_pos c2]
      rfl
    · rw [if_neg c2, if_neg c2, if_neg c2]
theorem appendX {h : AH} {T : Nat} {r : Rw} (v : Int32) (hT : T + 4 ≤ 220) : fX10_append v (tpX h T r) = some (tpX h (T + 4) (upd (upd (upd (upd r T (jshr v 24 &&& 255)) (T + 1) (jshr v 16 &&& 255)) (T + 2) (jshr v 8 &&& 255)) (T + 3) (jshr v 0 &&& 255))) := by
  unfold fX10_append
  obtain ⟨n, hn⟩ := fuel_plus 5 (by decide)
  rw [hn]
  show fX10_append_l3b (fX10_append_l3 v (n + 4)) v 24 (tpX h T r) = _
  rw [tpX_step (by omega) (by decide)]
  show fX10_append_l3b (fX10_append_l3 v (n + 3)) v 16 _ = _
  rw [tpX_step (by omega) (by decide)]
  show fX10_append_l3b (fX10_append_l3 v (n + 2)) v 8 _ = _
  rw [tpX_step (by omega) (by decide)]
  show fX10_append_l3b (fX10_append_l3 v (n + 1)) v 0 _ = _
  rw [tpX_step (by omega) (by decide)]
  show fX10_append_l3b (fX10_append_l3 v n) v (-8) _ = _
  unfold fX10_append_l3b
  rw [if_pos (by decide)]
theorem tpM_step {h : AH} {T : Nat} {r : Rw} {v x : Int32} {rec : Int32 → AH → Option AH} (hT : T < 220) (hx : ¬ x < 0) : fX12_types_l2b rec v x (tpM h T r) = rec (x + (-1)) (tpM h (T + 1) (upd r T (vp_nar .byte (ji2b (jshr v (8 * x)))))) := by
  unfold fX12_types_l2b
  have e1 : (tpM h T r).1 75 10 = nI T := rfl
  rw [if_neg hx, e1, if_neg (gd hT (by decide)), nI_clamp (by omega)]
  dsimp only [letT]
  have e2 : ∀ z, (sI (tpM h T r) 82 T z).1 75 10 = nI T := fun z => rfl
  rw [e2, nI_1]
  congr 1
  unfold tpM
  rw [sI_sR, sI_sR, sI_sR, sI_sR]
  refine Prod.ext ?_ rfl
  funext c
  show (if c = 75 then _ else if c = 82 then _ else if c = 75 then _ else if c = 82 then _ else _) = (if c = 75 then _ else if c = 82 then _ else _)
  by_cases c1 : c = 75
  · rw [if_pos c1, if_pos c1]
    exact upd_upd _ _ _ _
  · rw [if_neg c1, if_neg c1, if_neg c1]
    by_cases c2 : c = 82
    · rw [if_pos c2, if_pos c2]
      rfl
    · rw [if_neg c2, if_neg c2, if_neg c2]
theorem typesM {h : AH} {T : Nat} {r : Rw} (v : Int32) (hT : T + 4 ≤ 220) : fX12_types v (tpM h T r) = some (tpM h (T + 4) (upd (upd (upd (upd r T (vp_nar .byte (ji2b (jshr v 24)))) (T + 1) (vp_nar .byte (ji2b (jshr v 16)))) (T + 2) (vp_nar .byte (ji2b (jshr v 8)))) (T + 3) (vp_nar .byte (ji2b (jshr v 0))))) := by
  unfold fX12_types
  obtain ⟨n, hn⟩ := fuel_plus 5 (by decide)
  rw [hn]
  show fX12_types_l2b (fX12_types_l2 v (n + 4)) v 3 (tpM h T r) = _
  rw [tpM_step (by omega) (by decide)]
  show fX12_types_l2b (fX12_types_l2 v (n + 3)) v 2 _ = _
  rw [tpM_step (by omega) (by decide)]
  show fX12_types_l2b (fX12_types_l2 v (n + 2)) v 1 _ = _
  rw [tpM_step (by omega) (by decide)]
  show fX12_types_l2b (fX12_types_l2 v (n + 1)) v 0 _ = _
  rw [tpM_step (by omega) (by decide)]
  show fX12_types_l2b (fX12_types_l2 v n) v (-1) _ = _
  unfold fX12_types_l2b
  rw [if_pos (by decide)]
  rfl
/-- the bytes of both tapes are alike -/
def tpE (r s : Rw) : Prop := ∀ i, i < 220 → ∃ b, b < 256 ∧ r i = nI b ∧ s i &&& 255 = nI b
theorem tpE.step {r s : Rw} {T : Nat} {x : Int32} (h : tpE r s) : tpE (upd r T (x &&& 255)) (upd s T (vp_nar .byte (ji2b x))) := by
  intro i hi
  by_cases e : i = T
  · rw [e, upd_at, upd_at, nar_byte]
    obtain ⟨b, hb, eb⟩ := and255 x
    exact ⟨b, hb, eb, eb⟩
  · rw [upd_ne _ _ e, upd_ne _ _ e]
    exact h i hi
def u4X (r : Rw) (T : Nat) (v : Int32) : Rw := upd (upd (upd (upd r T (jshr v 24 &&& 255)) (T + 1) (jshr v 16 &&& 255)) (T + 2) (jshr v 8 &&& 255)) (T + 3) (jshr v 0 &&& 255)
def u4M (r : Rw) (T : Nat) (v : Int32) : Rw := upd (upd (upd (upd r T (vp_nar .byte (ji2b (jshr v 24)))) (T + 1) (vp_nar .byte (ji2b (jshr v 16)))) (T + 2) (vp_nar .byte (ji2b (jshr v 8)))) (T + 3) (vp_nar .byte (ji2b (jshr v 0)))
theorem tpE.step4 {r s : Rw} (T : Nat) (v : Int32) (h : tpE r s) : tpE (u4X r T v) (u4M s T v) := (((h.step (T := T) (x := jshr v 24)).step (T := T + 1) (x := jshr v 16)).step (T := T + 2) (x := jshr v 8)).step (T := T + 3) (x := jshr v 0)
def u20X (r : Rw) (T : Nat) (a b c d e : Int32) : Rw := u4X (u4X (u4X (u4X (u4X r T a) (T + 4) b) (T + 4 + 4) c) (T + 4 + 4 + 4) d) (T + 4 + 4 + 4 + 4) e
def u20M (r : Rw) (T : Nat) (a b c d e : Int32) : Rw := u4M (u4M (u4M (u4M (u4M r T a) (T + 4) b) (T + 4 + 4) c) (T + 4 + 4 + 4) d) (T + 4 + 4 + 4 + 4) e
theorem feedX {h : AH} {T : Nat} (a b c d e : Int32) (t2 : h.1 1 1 = nI T) (hT : T + 20 ≤ 220) : xo_feed a b c d e h = some (nI (T + 20), tpX h (T + 20) (u20X (h.1 2) T a b c d e)) := by
  have x0 : tpX h T (h.1 2) = h := by
    unfold tpX
    rw [sR_self, sI_same t2]
  have q20 : nI T + 20 = nI (T + 20) := nI_add T 20
  unfold xo_feed fX11_feed
  rw [t2, q20, if_neg (show ¬ (220 : Int32) < nI (T + 20) from nI_nlt (a := 220) hT (by decide))]
  have key := appendX (h := h) (r := h.1 2) a (show T + 4 ≤ 220 by omega)
  rw [x0] at key
  rw [key, ob, appendX b (by omega), ob, appendX c (by omega), ob, appendX d (by omega), ob, appendX e (by omega), ob]
  rfl
theorem feedM {h : AH} {T : Nat} (a b c d e : Int32) (t2 : h.1 75 10 = nI T) (hT : T + 20 ≤ 220) : mo_feed a b c d e h = some (nI (T + 20), tpM h (T + 20) (u20M (h.1 82) T a b c d e)) := by
  have x0 : tpM h T (h.1 82) = h := by
    unfold tpM
    rw [sR_self, sI_same t2]
  have q20 : nI T + 20 = nI (T + 20) := nI_add T 20
  unfold mo_feed fX12_feed
  rw [t2, q20, if_neg (show ¬ (220 : Int32) < nI (T + 20) from nI_nlt (a := 220) hT (by decide))]
  have key := typesM (h := h) (r := h.1 82) a (show T + 4 ≤ 220 by omega)
  rw [x0] at key
  rw [key, ob, typesM b (by omega), ob, typesM c (by omega), ob, typesM d (by omega), ob, typesM e (by omega), ob]
  rfl
theorem st_feed (a b c d e : Int32) {h : AH} (I : Inv h) : St (xo_feed a b c d e) (mo_feed a b c d e) h := by
  obtain ⟨⟨N, M, x, H⟩, hk, ⟨T, t1, t2, t3, t4⟩, n, hL⟩ := id I
  by_cases hT : T + 20 ≤ 220
  · have hE : tpE (u20X (h.1 2) T a b c d e) (u20M (h.1 82) T a b c d e) := (((((show tpE (h.1 2) (h.1 82) from t4).step4 T a).step4 (T + 4) b).step4 (T + 4 + 4) c).step4 (T + 4 + 4 + 4) d).step4 (T + 4 + 4 + 4 + 4) e
    exact ⟨_, _, _, feedX a b c d e t2 hT, feedM a b c d e (h := tpX h (T + 20) (u20X (h.1 2) T a b c d e)) t3 hT, ⟨N, M, x, H⟩, hk, ⟨T + 20, hT, rfl, rfl, hE⟩, n, hL⟩
  · have q20 : nI T + 20 = nI (T + 20) := nI_add T 20
    have hlt : (220 : Int32) < nI (T + 20) := nI_lt (a := 220) (by omega) (by omega)
    refine St.ro (r := -1) I ?_ .rf ?_ .rf
    · unfold xo_feed fX11_feed
      rw [t2, q20, if_pos hlt]
    · unfold mo_feed fX12_feed
      rw [t3, q20, if_pos hlt]
