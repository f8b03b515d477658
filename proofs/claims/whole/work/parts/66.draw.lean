/-! ===== the arcs drawn ===== -/
theorem l_or0 (x : Int64) : x ||| 0 = x := l_ext (fun i _ => by rw [l_or, l_0, Bool.or_false])
theorem ways8 {N M x s : Nat} {h g : AH} {told : Nat → Bool} {tI fI : Int32} (H : ScN N M x h) (c : Core h g) (hs : s < N) (ht : ∀ v, v < N → bt tI v = told v) (hf : ∀ v, v < N → bt fI v = fre (hbX h) s N told v) {y : Nat} (hy : y < N) : ∃ r, fX3_waysOut (nI y) fI tI g = some r ∧ ∀ v, v < 41 → bL r v = ((decide (v < 20) && fre (hbX h) s N told v && hbX h v y) || (decide (v = 40) && toE told (hbX h) N y)) := by
  have hN := H.N
  have eh : hbX g = hbX h := by
    unfold hbX
    rw [c.C 8 (by decide), c.C 9 (by decide), c.C 10 (by decide)]
  unfold fX3_waysOut
  dsimp only [letT]
  rw [nI_1]
  obtain ⟨r, e, q⟩ := for_ex (F := fun m xx (r : Int64) => fX3_waysOut_l8 (nI y) fI tI g m r xx) (fun r => some r) N (by omega) (fun u r => ∀ v, v < 41 → bL r v = ((decide (v < 20) && (decide (v < u) && (fre (hbX h) s N told v && hbX h v y))) || (decide (v = 40) && anyb (fun t => told t && hbX h t y) u))) (fun m u r hu hI => by
      show ∃ s', fX3_waysOut_l8b (fX3_waysOut_l8 (nI y) fI tI g m) (nI y) fI tI g r (nI u) = _ ∧ _
      unfold fX3_waysOut_l8b
      rw [(H.core c).sX, if_pos (nI_lt hu (by omega)), hasX_eq (H.core c).WX hu (show y < 1000 by omega), eh, isIn_bt _ (show u < 32 by omega), isIn_bt _ (show u < 32 by omega), ht u hu, hf u hu, nI_1]
      dsimp only [letT]
      have nxt : ∀ v, anyb (fun t => told t && hbX h t v) (u + 1) = (anyb (fun t => told t && hbX h t v) u || (told u && hbX h u v)) := fun v => rfl
      cases b1 : hbX h u y with
      | false =>
        rw [if_pos ite_f0]
        refine ⟨r, rfl, fun v hv => ?_⟩
        rw [hI v hv, nxt, b1]
        by_cases e : v = u
        · subst e; simp [b1]
        · by_cases lt : v < u
          · have : v < u + 1 := by omega
            simp [lt, this]
          · have : ¬ v < u + 1 := by omega
            simp [lt, this]
      | true =>
        rw [if_neg ite_t0]
        cases b2 : told u with
        | false =>
          rw [if_pos ite_f0]
          cases b3 : fre (hbX h) s N told u with
          | false =>
            rw [if_pos ite_f0, l_or0]
            refine ⟨r, rfl, fun v hv => ?_⟩
            rw [hI v hv, nxt, b2]
            by_cases e : v = u
            · subst e; simp [b3]
            · by_cases lt : v < u
              · have : v < u + 1 := by omega
                simp [lt, this]
              · have : ¬ v < u + 1 := by omega
                simp [lt, this]
          | true =>
            rw [if_neg ite_t0]
            refine ⟨_, rfl, fun v hv => ?_⟩
            rw [l_or, l_shl (by omega) (by omega), hI v hv, nxt, b2]
            by_cases e : v = u
            · subst e
              have : v < 20 := by omega
              simp [b1, b3, this]
            · have e' : ¬ u = v := fun q => e q.symm
              by_cases lt : v < u
              · have : v < u + 1 := by omega
                simp [lt, this, e']
              · have : ¬ v < u + 1 := by omega
                simp [lt, this, e']
        | true =>
          rw [if_neg ite_t0]
          refine ⟨_, rfl, fun v hv => ?_⟩
          have nf0 : fre (hbX h) s N told u = false := by
            cases q : fre (hbX h) s N told u with
            | false => rfl
            | true => have := (fre_iff.mp q).2.2; rw [b2] at this; cases this
          rw [l_or, l_40 (by omega), hI v hv, nxt, b1, b2]
          by_cases e : v = u
          · subst e
            have : v < 20 := by omega
            have h40 : ¬ 40 = v := by omega
            have h40' : ¬ v = 40 := by omega
            simp [nf0, h40, h40']
          · by_cases e40 : v = 40
            · subst e40; simp
            · have h40 : ¬ 40 = v := fun q => e40 q.symm
              by_cases lt : v < u
              · have : v < u + 1 := by omega
                simp [lt, this, h40, e40]
              · have : ¬ v < u + 1 := by omega
                simp [lt, this, h40, e40]) (fun m r hI => by
      show fX3_waysOut_l8b (fX3_waysOut_l8 (nI y) fI tI g m) (nI y) fI tI g r (nI N) = _
      unfold fX3_waysOut_l8b
      rw [(H.core c).sX, if_neg (nI_nlt (Nat.le_refl _) (by omega))]) fuel0 (y + 1) 0 (by omega) (by have := fuel_big; omega) (fun v hv => by
      rw [l_0]
      have z : anyb (fun t => told t && hbX h t y) (y + 1) = false := by
        cases q : anyb (fun t => told t && hbX h t y) (y + 1) with
        | false => rfl
        | true =>
          obtain ⟨t, t1, t2⟩ := anyb_iff.mp q
          simp only [Bool.and_eq_true] at t2
          have := hb_lt H (show t < N by omega) (show y < 1000 by omega) t2.2
          omega
      rw [z]
      by_cases lt : v < y + 1
      · have : hbX h v y = false := by
          cases q : hbX h v y with
          | false => rfl
          | true =>
            have := hb_lt H (show v < N by omega) (show y < 1000 by omega) q
            omega
        simp [this]
      · simp [lt])
  refine ⟨r, e, fun v hv => ?_⟩
  rw [q v hv]
  unfold toE
  by_cases lt : v < N
  · simp [lt, Bool.and_assoc]
  · have : fre (hbX h) s N told v = false := by
      cases q : fre (hbX h) s N told v with
      | false => rfl
      | true => exact absurd (fre_iff.mp q).1 lt
    simp [lt, this]
/-- an arc of the net -/
def arc (s N : Nat) (F told : Nat → Bool) (hb : Nat → Nat → Bool) (u v : Nat) : Bool := un F u v || nf s N F told hb u v
theorem arc_lo {s N : Nat} {F told : Nat → Bool} {hb : Nat → Nat → Bool} {u v : Nat} (hu : u < 20) : arc s N F told hb u v = (F u && decide (u + 20 = v)) := by
  unfold arc un nf
  have : ¬ 20 ≤ u := by omega
  by_cases e : v = u + 20
  · subst e; simp [hu, this]
  · have e' : ¬ u + 20 = v := fun q => e q.symm
    simp [hu, this, e, e']
theorem arc_hi {s N x : Nat} {F told : Nat → Bool} {hb : Nat → Nat → Bool} {v : Nat} (hx : x < 20) : arc s N F told hb (20 + x) v = ((decide (x = s) || F x) && ((decide (v < 20) && F v && hb v x) || (decide (v = 40) && toE told hb N x))) := by
  unfold arc un nf
  have h1 : ¬ 20 + x < 20 := by omega
  have h2 : 20 + x < 40 := by omega
  have h3 : 20 + x - 20 = x := by omega
  rw [h3, decide_eq_false h1]
  by_cases e : x = s
  · subst e; simp [h2]
  · have e' : ¬ 20 + x = 20 + s := by omega
    simp [h2, e]
theorem draw_eq {N M x s : Nat} {h : AH} {told : Nat → Bool} {tI : Int32} (H : ScN N M x h) (hs : s < N) (ht : ∀ v, v < N → bt tI v = told v) (gr : Gr (hbX h) s N told) : ∃ g, fX3_drawArcs (nI s) tI h = some g ∧ Core h g ∧ ∀ u v, u < 41 → v < 41 → aG g u v = arc s N (fre (hbX h) s N told) told (hbX h) u v := by
  have hN := H.N
  unfold fX3_drawArcs
  obtain ⟨g1, e1, c1, q1⟩ := for_ex (F := fun m xx g => fX3_drawArcs_l3 (fun (g4 : AH) => (fX6_standingOn (nI s) g4).bind (fun b5 => letT (b5 &&& (tI ^^^ (-1 : Int32))) (fun v7 => fX3_drawArcs_l41 (nI s) tI v7 fuel0 (nI s) g4))) (nI s) tI m xx g) (fun (g4 : AH) => (fX6_standingOn (nI s) g4).bind (fun b5 => letT (b5 &&& (tI ^^^ (-1 : Int32))) (fun v7 => fX3_drawArcs_l41 (nI s) tI v7 fuel0 (nI s) g4))) 41 (by decide) (fun k g => Core h g ∧ ∀ u v, u < k → aG g u v = false) (fun m k g hk hI => by
      obtain ⟨c, q⟩ := hI
      show ∃ s', fX3_drawArcs_l3b (fX3_drawArcs_l3 _ (nI s) tI m) _ (nI s) tI (nI k) g = _ ∧ _
      unfold fX3_drawArcs_l3b
      rw [if_pos (show nI k < 41 from nI_lt (b := 41) hk (by decide)), if_neg (gd hk (by decide)), nI_clamp (by omega), nI_1]
      refine ⟨_, rfl, c.tr Core.sJ, fun u v hu => ?_⟩
      rw [aG_sJ]
      by_cases e : u = k
      · rw [if_pos e, l_0]
      · rw [if_neg e]; exact q u v (by omega)) (fun m g _ => by
      show fX3_drawArcs_l3b (fX3_drawArcs_l3 _ (nI s) tI m) _ (nI s) tI (nI 41) g = _
      unfold fX3_drawArcs_l3b
      rw [if_neg (by decide)]) fuel0 0 h (by omega) (by have := fuel_big; omega) ⟨.rf, fun u v hu => absurd hu (Nat.not_lt_zero _)⟩
  have e1' : fX3_drawArcs_l3 (fun (g4 : AH) => (fX6_standingOn (nI s) g4).bind (fun b5 => letT (b5 &&& (tI ^^^ (-1 : Int32))) (fun v7 => fX3_drawArcs_l41 (nI s) tI v7 fuel0 (nI s) g4))) (nI s) tI fuel0 0 h = _ := e1
  rw [e1', standingOn_eq (H.core c1).WX hs, ob]
  dsimp only [letT]
  generalize efI : nI (bs (fun j => decide (s < j) && bt (g1.1 13 j) s) N) &&& (tI ^^^ -1) = fI
  have hf : ∀ v, v < N → bt fI v = fre (hbX h) s N told v := fun v hv => by
    rw [← efI, b_and, b_xor, b_m1 v (by omega), bt_nI (by omega), bs_bit, ht v hv, c1.C 13 (by decide), needs_bit H hv hs]
    unfold fre
    by_cases lt : s < v
    · cases told v <;> simp [hv, lt]
    · have : (stn (hbX h) s (fun _ => false) N).testBit v = false := by
        cases q : (stn (hbX h) s (fun _ => false) N).testBit v with
        | false => rfl
        | true => exact absurd ((stn_iff hv).mp q).1 lt
      simp [this]
  have fz : ∀ v, v ≤ s → fre (hbX h) s N told v = false := fun v hv => by
    cases q : fre (hbX h) s N told v with
    | false => rfl
    | true =>
      obtain ⟨a, b, -⟩ := fre_iff.mp q
      have := ((stn_iff a).mp b).1
      omega
  obtain ⟨g, e, c, q⟩ := for_ex (F := fun m xx g => fX3_drawArcs_l41 (nI s) tI fI m xx g) (fun g => some g) N (by omega) (fun k g => Core h g ∧ ∀ u v, u < 41 → v < 41 → aG g u v = (decide (u < 20 ∧ u < k ∨ 20 ≤ u ∧ u < 40 ∧ u - 20 < k) && arc s N (fre (hbX h) s N told) told (hbX h) u v)) (fun m k g hk hI => by
      obtain ⟨c, q⟩ := hI
      show ∃ s', fX3_drawArcs_l41b (fX3_drawArcs_l41 (nI s) tI fI m) (nI s) tI fI (nI k) g = _ ∧ _
      unfold fX3_drawArcs_l41b
      rw [(H.core c).sX, if_pos (nI_lt hk (by omega))]
      dsimp only [letT]
      rw [show (20 : Int32) = nI 20 from rfl, nI_add, putArcs_in (show k < 41 by omega), isIn_bt _ (show k < 32 by omega), isIn_bt _ (show k < 32 by omega), hf k hk, nI_1]
      obtain ⟨r1, w1, v1⟩ := ways8 (s := s) H c hs ht hf hk
      obtain ⟨r2, w2, v2⟩ := ways8 (s := s) H (c.tr (Core.sJ (a := 59) (j := k) (v := jshlL 1 (nI (20 + k))))) hs ht hf hk
      rw [w1, w2, ob, ob, putArcs_in (show 20 + k < 41 by omega), putArcs_in (show 20 + k < 41 by omega)]
      have k20 : k < 20 := by omega
      cases b : fre (hbX h) s N told k with
      | true =>
        have ks : ¬ k = s := fun z => by rw [fz k (by omega)] at b; cases b
        rw [if_neg ite_t0, if_neg (ne_lit (by omega) (by omega) ks), if_neg ite_t0]
        refine ⟨_, rfl, (c.tr Core.sJ).tr Core.sJ, fun u v hu hv => ?_⟩
        rw [aG_sJ, aG_sJ]
        by_cases e1 : u = 20 + k
        · subst e1
          rw [if_pos rfl, v2 v hv, arc_hi k20, b]
          have : (20 + k < 20 ∧ 20 + k < k + 1 ∨ 20 ≤ 20 + k ∧ 20 + k < 40 ∧ 20 + k - 20 < k + 1) := by omega
          rw [decide_eq_true this]; simp
        · rw [if_neg e1]
          by_cases e2 : u = k
          · subst e2
            rw [if_pos rfl, l_shl (by omega) (by omega), arc_lo k20, b, Nat.add_comm 20 u]
            have : (u < 20 ∧ u < u + 1 ∨ 20 ≤ u ∧ u < 40 ∧ u - 20 < u + 1) := by omega
            rw [decide_eq_true this]; simp
          · rw [if_neg e2, q u v hu hv]
            have : (u < 20 ∧ u < k ∨ 20 ≤ u ∧ u < 40 ∧ u - 20 < k) ↔ (u < 20 ∧ u < k + 1 ∨ 20 ≤ u ∧ u < 40 ∧ u - 20 < k + 1) := by omega
            rw [decide_eq_decide.mpr this]
      | false =>
        rw [if_pos ite_f0]
        have lo : ∀ v, arc s N (fre (hbX h) s N told) told (hbX h) k v = false := fun v => by rw [arc_lo k20, b]; rfl
        by_cases ks : k = s
        · rw [if_pos (by rw [ks])]
          refine ⟨_, rfl, c.tr Core.sJ, fun u v hu hv => ?_⟩
          rw [aG_sJ]
          by_cases e1 : u = 20 + k
          · subst e1
            rw [if_pos rfl, v1 v hv, arc_hi k20]
            have : (20 + k < 20 ∧ 20 + k < k + 1 ∨ 20 ≤ 20 + k ∧ 20 + k < 40 ∧ 20 + k - 20 < k + 1) := by omega
            rw [decide_eq_true this]; simp [ks]
          · rw [if_neg e1, q u v hu hv]
            by_cases e2 : u = k
            · subst e2
              rw [lo v]
              simp
            · have : (u < 20 ∧ u < k ∨ 20 ≤ u ∧ u < 40 ∧ u - 20 < k) ↔ (u < 20 ∧ u < k + 1 ∨ 20 ≤ u ∧ u < 40 ∧ u - 20 < k + 1) := by omega
              rw [decide_eq_decide.mpr this]
        · rw [if_neg (ne_lit (by omega) (by omega) ks), if_pos ite_f0]
          refine ⟨_, rfl, c, fun u v hu hv => ?_⟩
          rw [q u v hu hv]
          by_cases e2 : u = k
          · subst e2
            rw [lo v]
            simp
          · by_cases e1 : u = 20 + k
            · subst e1
              rw [arc_hi k20, b]
              simp [ks]
            · have : (u < 20 ∧ u < k ∨ 20 ≤ u ∧ u < 40 ∧ u - 20 < k) ↔ (u < 20 ∧ u < k + 1 ∨ 20 ≤ u ∧ u < 40 ∧ u - 20 < k + 1) := by omega
              rw [decide_eq_decide.mpr this]) (fun m g hI => by
      show fX3_drawArcs_l41b (fX3_drawArcs_l41 (nI s) tI fI m) (nI s) tI fI (nI N) g = _
      unfold fX3_drawArcs_l41b
      rw [(H.core hI.1).sX, if_neg (nI_nlt (Nat.le_refl _) (by omega))]) fuel0 s g1 (by omega) (by have := fuel_big; omega) ⟨c1, fun u v hu hv => by
      rw [q1 u v hu]
      by_cases k1 : u < 20 ∧ u < s ∨ 20 ≤ u ∧ u < 40 ∧ u - 20 < s
      · rcases k1 with k1 | k1
        · rw [arc_lo k1.1, fz u (by omega)]; simp
        · obtain ⟨x, rfl⟩ : ∃ x, u = 20 + x := ⟨u - 20, by omega⟩
          have : ¬ x = s := by omega
          rw [arc_hi (by omega), fz x (by omega)]
          simp [this]
      · simp [k1]⟩
  refine ⟨g, e, c, fun u v hu hv => ?_⟩
  rw [q u v hu hv]
  by_cases k1 : u < 20 ∧ u < N ∨ 20 ≤ u ∧ u < 40 ∧ u - 20 < N
  · simp [k1]
  · have : arc s N (fre (hbX h) s N told) told (hbX h) u v = false := by
      have fN : ∀ y, N ≤ y → fre (hbX h) s N told y = false := fun y hy => by
        cases q : fre (hbX h) s N told y with
        | false => rfl
        | true => have := (fre_iff.mp q).1; omega
      by_cases lt : u < 20
      · rw [arc_lo lt, fN u (by omega)]; rfl
      · by_cases lt2 : u < 40
        · obtain ⟨x, rfl⟩ : ∃ x, u = 20 + x := ⟨u - 20, by omega⟩
          have : ¬ x = s := by omega
          rw [arc_hi (by omega), fN x (by omega)]
          simp [this]
        · unfold arc un nf
          simp [lt, lt2]
    rw [this]
    simp
theorem flw_0 {s N : Nat} {F told : Nat → Bool} {hb : Nat → Nat → Bool} {a : Nat → Nat → Bool} (net : Net s N F hb) (ha : ∀ u v, u < 41 → v < 41 → a u v = arc s N F told hb u v) : Flw s N F told hb a (fun _ _ => 0) 0 40 := by
  refine ⟨fun _ _ _ _ => rfl, fun u v hu hv h => Or.inl ⟨rfl, ?_, ?_⟩, fun u v hu hv h => ⟨?_, Or.inl ⟨rfl, ?_⟩⟩, fun u v hu hv h1 h2 h3 h4 => ⟨rfl, ?_⟩, fun u hu => ?_⟩
  · rw [ha u v hu hv]; unfold arc; rw [h]; rfl
  · obtain ⟨q1, q2, q3⟩ := un_nf (told := told) net h
    rw [ha v u hv hu]; unfold arc; rw [q1, q3]; rfl
  · rw [ha u v hu hv]; unfold arc; rw [h, Bool.or_true]
  · obtain ⟨q1, q2, q3⟩ := nf_un net h
    rw [ha v u hv hu]; unfold arc; rw [q1, q3]; rfl
  · rw [ha u v hu hv]; unfold arc; rw [h1, h3]; rfl
  · rw [sm_zero (fun _ _ => rfl), if_neg (show ¬ u = 40 by omega)]
    split <;> rfl
/-- the class's cut: a least one -/
theorem leastCut_eq {N M x s : Nat} {h : AH} {told : Nat → Bool} {tI : Int32} (H : ScN N M x h) (ht : ∀ v, v < N → bt tI v = told v) (gr : Gr (hbX h) s N told) : ∃ (C : Nat → Bool) (h1 : AH), fX3_leastCut (nI s) tI h = some (nI (bs C N), h1) ∧ Core h h1 ∧ (∀ v, C v = true → fre (hbX h) s N told v = true) ∧ Sep (hbX h) s N told C ∧ (∀ X : Nat → Bool, (∀ v, X v = true → fre (hbX h) s N told v = true) → Sep (hbX h) s N told X → ct C N < ct X N ∨ (ct C N = ct X N ∧ bs C N ≤ bs X N)) ∧ ∀ c, C c = true → ∃ t, t < N ∧ told t = true ∧ (stn (hbX h) c (fun _ => false) N).testBit t = true := by
  have hN := H.N
  have hs := gr.1
  obtain ⟨g, e1, c1, q1⟩ := draw_eq H hs ht gr
  obtain ⟨R, g1, e2, B⟩ := reached_eq (g0 := g) (a := aG g) (st := 20 + s) (by omega) (fun _ _ _ _ => rfl)
  obtain ⟨R', g2, a', φ', val', e3, c3, f, r, e40⟩ := cut20 (g0 := g) gr (H.core c1).sX 20 0 fuel0 R g g1 (fun _ _ => 0) (by omega) (by have := fuel_big; omega) .rf (flw_0 gr.net q1) B
  refine ⟨cutR R', g2, ?_, c1.tr c3, cutR_fre gr f r, cutR_sep gr f r e40, fun X hX sp => cutR_least gr f r e40 hX sp, fun c hc => cutR_may gr f r e40 hc⟩
  unfold fX3_leastCut
  rw [e1, ob, show (20 : Int32) = nI 20 from rfl, nI_add, e2, ob]
  exact e3
