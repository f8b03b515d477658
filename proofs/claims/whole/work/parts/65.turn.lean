/-! ===== arcs turned along a way ===== -/
theorem Flw.cong {s N : Nat} {F told : Nat → Bool} {hb : Nat → Nat → Bool} {a a' : Nat → Nat → Bool} {φ : Nat → Nat → Int} {val : Int} {k : Nat} (h : ∀ u v, u < 41 → v < 41 → a' u v = a u v) (f : Flw s N F told hb a φ val k) : Flw s N F told hb a' φ val k := by
  obtain ⟨f1, f2, f3, f4, f5⟩ := f
  refine ⟨f1, fun u v hu hv q => ?_, fun u v hu hv q => ?_, fun u v hu hv => ?_, f5⟩
  · rw [h u v hu hv, h v u hv hu]; exact f2 u v hu hv q
  · rw [h u v hu hv, h v u hv hu]; exact f3 u v hu hv q
  · rw [h u v hu hv]; exact f4 u v hu hv
theorem putArcs_in {p : Nat} {x : Int64} {h : AH} (hp : p < 41) : fX3_putArcs (nI p) x h = sJ h 59 p x := by
  unfold fX3_putArcs
  rw [if_neg (nI_pos (by omega)), if_pos (show nI p < 41 from nI_lt (b := 41) hp (by decide)), nI_clamp (by omega)]
  rfl
theorem arcsOf_in {p : Nat} {h : AH} (hp : p < 41) : fX3_arcsOf (nI p) h = h.2 59 p := by
  unfold fX3_arcsOf
  rw [if_neg (nI_pos (by omega)), if_pos (show nI p < 41 from nI_lt (b := 41) hp (by decide)), nI_clamp (by omega)]
theorem aG_sJ {h : AH} {k u v : Nat} {x : Int64} : aG (sJ h 59 k x) u v = if u = k then bL x v else aG h u v := by
  unfold aG
  show bL (vp_updL (h.2 59) k x u) v = _
  unfold vp_updL
  by_cases e : u = k
  · rw [if_pos e, if_pos e]
  · rw [if_neg e, if_neg e]
theorem turn_step {g : AH} {start k p : Nat} {stp : Int32} {rec : Int32 → Int32 → AH → Option AH} (hk : k < 41) (hp : p < 41) (hpk : p ≠ k) (hks : k ≠ start) (hstart : start < 41) (h40 : ¬ (40 : Int32) < stp) (e60 : g.1 60 k = nI p) : ∃ g', fX3_turnArcs_l5b rec (nI start) (nI k) stp g = rec (nI p) (stp + 1) g' ∧ g'.1 = g.1 ∧ ∀ u v, u < 41 → v < 41 → aG g' u v = trn (aG g) p k u v := by
  unfold fX3_turnArcs_l5b
  rw [if_neg h40, if_neg (ne_lit (by omega) (by omega) hks)]
  dsimp only [letT]
  rw [at_in (show k < aln 60 from hk), e60, putArcs_in hp, arcsOf_in hp]
  rw [arcsOf_in hk, arcsOf_in hk, putArcs_in hk, putArcs_in hk]
  have bits : ∀ (x : Int64) (v : Nat), v < 41 → bL (x ||| jshlL 1 (nI p)) v = (bL x v || decide (p = v)) := fun x v hv => by rw [l_or, l_shl (by omega) (by omega)]
  have bits2 : ∀ v, v < 41 → bL (g.2 59 p &&& (jshlL 1 (nI k) ^^^ -1)) v = (aG g p v && !decide (k = v)) := fun v hv => by
    rw [l_and, l_xor, l_m1 v (by omega), l_shl (by omega) (by omega)]
    simp [aG]
  -- the arc is taken away
  have rem : ∀ J : Option AH, J = rec (nI p) (stp + 1) (sJ (sJ g 59 p (g.2 59 p &&& (jshlL 1 (nI k) ^^^ -1))) 59 k ((sJ g 59 p (g.2 59 p &&& (jshlL 1 (nI k) ^^^ -1))).2 59 k ||| jshlL 1 (nI p))) → ¬ (20 ≤ p ∧ k ≠ p - 20) → ∃ g', J = rec (nI p) (stp + 1) g' ∧ g'.1 = g.1 ∧ ∀ u v, u < 41 → v < 41 → aG g' u v = trn (aG g) p k u v := fun J hJ hn => by
    refine ⟨_, hJ, rfl, fun u v hu hv => ?_⟩
    rw [aG_sJ, aG_sJ, bits _ v hv, bits2 v hv]
    have e2 : bL ((sJ g 59 p (g.2 59 p &&& (jshlL 1 (nI k) ^^^ -1))).2 59 k) v = aG g k v := by
      have : (sJ g 59 p (g.2 59 p &&& (jshlL 1 (nI k) ^^^ -1))).2 59 k = g.2 59 k := by
        show vp_updL (g.2 59) p _ k = _
        exact if_neg (fun q => hpk q.symm)
      rw [this]
      rfl
    rw [e2]
    unfold trn
    by_cases c1 : u = k
    · rw [if_pos c1]
      by_cases c2 : v = p
      · rw [if_pos ⟨c1, c2⟩]; simp [c2]
      · have : ¬ p = v := fun q => c2 q.symm
        rw [if_neg (fun q => c2 q.2), if_neg (fun q => hpk (q.1.symm.trans c1)), c1]
        simp [this]
    · rw [if_neg c1, if_neg (fun q : u = k ∧ v = p => c1 q.1)]
      by_cases c2 : u = p
      · rw [if_pos c2]
        by_cases c3 : v = k
        · rw [if_pos ⟨c2, c3, hn⟩]; simp [c3]
        · have : ¬ k = v := fun q => c3 q.symm
          rw [if_neg (fun q => c3 q.2.1), c2]; simp [this]
      · rw [if_neg c2, if_neg (fun q => c2 q.1)]
  have kee : ∀ J : Option AH, J = rec (nI p) (stp + 1) (sJ g 59 k (g.2 59 k ||| jshlL 1 (nI p))) → (20 ≤ p ∧ k ≠ p - 20) → ∃ g', J = rec (nI p) (stp + 1) g' ∧ g'.1 = g.1 ∧ ∀ u v, u < 41 → v < 41 → aG g' u v = trn (aG g) p k u v := fun J hJ hn => by
    refine ⟨_, hJ, rfl, fun u v hu hv => ?_⟩
    rw [aG_sJ, bits _ v hv]
    unfold trn
    by_cases c1 : u = k
    · rw [if_pos c1]
      by_cases c2 : v = p
      · rw [if_pos ⟨c1, c2⟩]; simp [c2]
      · have : ¬ p = v := fun q => c2 q.symm
        rw [if_neg (fun q => c2 q.2), if_neg (fun q => hpk (q.1.symm.trans c1)), c1]
        simp [this, aG]
    · rw [if_neg c1, if_neg (fun q => c1 q.1), if_neg (fun q => q.2.2 hn)]
  by_cases lt : p < 20
  · rw [if_pos (show nI p < 20 from nI_lt (b := 20) lt (by decide))]
    exact rem _ rfl (by omega)
  · rw [if_neg (show ¬ nI p < 20 from nI_nlt (b := 20) (by omega) (by omega)), show (20 : Int32) = nI 20 from rfl, nI_sub (show 20 ≤ p by omega)]
    by_cases e : k = p - 20
    · rw [if_pos (by rw [e])]
      exact rem _ rfl (by omega)
    · rw [if_neg (ne_lit (by omega) (by omega) e)]
      exact kee _ rfl ⟨by omega, e⟩
theorem turn_eq {s N : Nat} {F told : Nat → Bool} {hb : Nat → Nat → Bool} {a : Nat → Nat → Bool} {g : AH} {val : Int} {sn : Nat → Bool} {rk : Nat → Nat} (net : Net s N F hb) (s40 : sn 40 = true) (hrk : ∀ v, v < 41 → sn v = true → rk v < 41) (par : ∀ v, v < 41 → sn v = true → v ≠ 20 + s → ∃ p, p < 41 ∧ g.1 60 v = nI p ∧ sn p = true ∧ a p v = true ∧ rk p < rk v) :
    ∀ (r k j n : Nat) (h : AH) (φ : Nat → Nat → Int), rk k = r → k < 41 → sn k = true → rk k ≤ rk 40 → j + r ≤ 40 → r < n → h.1 = g.1 → Flw s N F told hb (aG h) φ val k → (∀ u v, u < 41 → v < 41 → sn u = true → sn v = true → rk u ≤ rk k → rk v ≤ rk k → aG h u v = a u v) →
    ∃ h' φ', fX3_turnArcs_l5 (nI (20 + s)) n (nI k) (nI j) h = some h' ∧ h'.1 = g.1 ∧ Flw s N F told hb (aG h') φ' val (20 + s) := by
  have hs : s < 20 := by have := net.1; have := net.2.1; omega
  intro r
  induction r using Nat.strongRecOn with
  | ind r ih =>
    intro k j n h φ er hk sk hle hj hn h1 f hsame
    obtain ⟨n, rfl⟩ : ∃ n', n = n' + 1 := ⟨n - 1, by omega⟩
    show ∃ h' φ', fX3_turnArcs_l5b (fX3_turnArcs_l5 (nI (20 + s)) n) (nI (20 + s)) (nI k) (nI j) h = some h' ∧ _
    by_cases e : k = 20 + s
    · refine ⟨h, φ, ?_, h1, by rw [← e]; exact f⟩
      unfold fX3_turnArcs_l5b
      rw [if_neg (show ¬ (40 : Int32) < nI j from nI_nlt (a := 40) (by omega) (by omega)), if_pos (by rw [e])]
    · obtain ⟨p, p1, p2, p3, p4, p5⟩ := par k hk sk e
      have pk : p ≠ k := fun q => by rw [q] at p5; omega
      have p40 : p ≠ 40 := fun q => by rw [q] at p5; omega
      obtain ⟨g', t1, t2, t3⟩ := turn_step (g := h) (start := 20 + s) (k := k) (p := p) (stp := nI j) (rec := fX3_turnArcs_l5 (nI (20 + s)) n) hk p1 pk e (by omega) (show ¬ (40 : Int32) < nI j from nI_nlt (a := 40) (by omega) (by omega)) (by rw [h1]; exact p2)
      have hab : aG h p k = true := by rw [hsame p k p1 hk p3 sk (by omega) (Nat.le_refl _)]; exact p4
      obtain ⟨φ', f'⟩ := f.turn net hk (by omega) hab pk
      rw [t1, nI_1]
      refine ih (rk p) (by omega) p (j + 1) n g' φ' rfl p1 p3 (by omega) (by omega) (by omega) (t2.trans h1) (f'.cong t3) (fun u v hu hv su sv hru hrv => ?_)
      rw [t3 u v hu hv]
      unfold trn
      rw [if_neg (fun q => by rw [q.1] at hru; omega), if_neg (fun q => by rw [q.2.1] at hrv; omega)]
      exact hsame u v hu hv su sv (by omega) (by omega)
theorem Flw.up {s N : Nat} {F told : Nat → Bool} {hb : Nat → Nat → Bool} {a : Nat → Nat → Bool} {φ : Nat → Nat → Int} {val : Int} (f : Flw s N F told hb a φ val (20 + s)) : Flw s N F told hb a φ (val + 1) 40 := by
  obtain ⟨f1, f2, f3, f4, f5⟩ := f
  refine ⟨f1, f2, f3, f4, fun u hu => ?_⟩
  rw [f5 u hu]
  by_cases e : u = 20 + s
  · rw [if_pos e, if_pos e, if_pos e, if_neg (by omega)]; omega
  · rw [if_neg e, if_neg e, if_neg e, if_neg (by omega)]
/-- all that is free, cut -/
theorem fre_sep {hb : Nat → Nat → Bool} {s N : Nat} {told : Nat → Bool} (g : Gr hb s N told) : Sep hb s N told (fre hb s N told) := by
  intro t
  induction t using Nat.strongRecOn with
  | ind t ih =>
    intro ht h
    cases q : (stn hb s (fre hb s N told) N).testBit t with
    | false => rfl
    | true =>
      obtain ⟨h1, h2, k, h3, h4, h5⟩ := (stn_iff ht).mp q
      rcases h5 with e | e
      · rw [e, g.2.2.2.2 t ht h] at h4; cases h4
      · have hk := stn_top e
        cases tk : told k with
        | true => rw [ih k h3 hk tk] at e; cases e
        | false =>
          have := ((stn_iff hk).mp e).2.1
          rw [fre_iff.mpr ⟨hk, stn_sub (fun _ _ z => by cases z) k e, tk⟩] at this
          cases this
theorem fre_ct {hb : Nat → Nat → Bool} {s N : Nat} {told : Nat → Bool} (g : Gr hb s N told) : ct (fre hb s N told) N < N := by
  have h1 := ct_drop (p := fun v => fre hb s N told v || decide (v = s)) (l := s) (N := N) g.1 (by simp)
  have h2 := ct_le (fun v => fre hb s N told v || decide (v = s)) N
  have h3 : ct (fun m => (fre hb s N told m || decide (m = s)) && !decide (m = s)) N = ct (fre hb s N told) N := ct_cong (fun m _ => by
    by_cases e : m = s
    · rw [e, g.net.2.2.1]; simp
    · simp [e])
  omega
theorem cut69 {N : Nat} {R : Int64} {h : AH} (hs : h.1 6 0 = nI N) (hN : N ≤ 20) : fX3_leastCut_l69 R h fuel0 0 0 = some (nI (bs (cutR (bL R)) N), h) := by
  have key := for_up0 (F := fun m x s => fX3_leastCut_l69 R h m (nI s) x) (fun k s => if cutR (bL R) k then s ||| 2 ^ k else s) (fun s => some (nI s, h)) N (by omega) (fun m k s hk => by
      show fX3_leastCut_l69b (fX3_leastCut_l69 R h m) R h (nI s) (nI k) = _
      unfold fX3_leastCut_l69b
      rw [hs, if_pos (nI_lt hk (by omega)), nI_1, show (20 : Int32) = nI 20 from rfl, nI_add]
      have a1 := l_ask R (show k < 64 by omega)
      have a2 := l_ask R (show 20 + k < 64 by omega)
      have k20 : k < 20 := by omega
      unfold cutR
      cases b1 : bL R k with
      | false => rw [if_pos (a1.mpr b1)]; simp
      | true =>
        rw [if_neg (fun q => by rw [a1.mp q] at b1; cases b1)]
        cases b2 : bL R (20 + k) with
        | false =>
          rw [if_pos (a2.mpr b2)]
          dsimp only [letT]
          rw [show fX11_bit (nI k) h = jshl 1 (nI k) from rfl, or_bit (by omega)]
          simp [k20]
        | true =>
          rw [if_neg (fun q => by rw [a2.mp q] at b2; cases b2)]
          simp) (fun m s => by
      show fX3_leastCut_l69b (fX3_leastCut_l69 R h m) R h (nI s) (nI N) = _
      unfold fX3_leastCut_l69b
      rw [hs, if_neg (nI_nlt (Nat.le_refl _) (by omega))]) fuel0 0 0 (by omega) (by have := fuel_big; omega)
  rw [Nat.sub_zero, bs_itf] at key
  exact key
theorem cut20 {hb : Nat → Nat → Bool} {s N : Nat} {told : Nat → Bool} {g0 : AH} (gr : Gr hb s N told) (hsz : g0.1 6 0 = nI N) : ∀ (d y n : Nat) (R : Int64) (g g1 : AH) (φ : Nat → Nat → Int), y + d = 20 → d < n → Core g0 g → Flw s N (fre hb s N told) told hb (aG g) φ (y : Int) 40 → BfsR g g1 (aG g) (20 + s) R →
    ∃ (R' : Nat → Bool) (g2 : AH) (a' : Nat → Nat → Bool) (φ' : Nat → Nat → Int) (val' : Int), fX3_leastCut_l20 (fun (y11 : Int64) (g12 : AH) => fX3_leastCut_l69 y11 g12 fuel0 (0 : Int32) (0 : Int32)) (nI s) n R (nI y) g1 = some (nI (bs (cutR R') N), g2) ∧ Core g0 g2 ∧ Flw s N (fre hb s N told) told hb a' φ' val' 40 ∧ Rch s a' R' ∧ R' 40 = false := by
  have hN := gr.2.1
  have hs : s < 20 := by have := gr.1; omega
  intro d
  induction d with
  | zero =>
    intro y n R g g1 φ h1 _ _ f _
    have := gr.weak f (fun v h => h) (fre_sep gr)
    have := fre_ct gr
    omega
  | succ d ih =>
    intro y n R g g1 φ h1 h2 c f B
    obtain ⟨n, rfl⟩ : ∃ n', n = n' + 1 := ⟨n - 1, by omega⟩
    obtain ⟨b1, b2, sn, rk, b3, b4, b5, b6, b7, b8⟩ := B
    show ∃ (R' : Nat → Bool) (g2 : AH) (a' : Nat → Nat → Bool) (φ' : Nat → Nat → Int) (val' : Int), fX3_leastCut_l20b (fX3_leastCut_l20 _ (nI s) n) _ (nI s) R (nI y) g1 = _ ∧ _
    unfold fX3_leastCut_l20b
    have c1 : Core g0 g1 := c.tr b1
    have sz1 : g1.1 6 0 = nI N := by rw [c1.C 6 (by decide)]; exact hsz
    have ag : ∀ u v, aG g1 u v = aG g u v := fun u v => by unfold aG; rw [b2]
    have ask : lg_cmp (jshrL R 40 &&& 1) 0 = 0 ↔ bL R 40 = false := l_ask R (i := 40) (by decide)
    rw [if_pos (show nI y < 20 from nI_lt (b := 20) (by omega) (by decide))]
    cases e40 : bL R 40 with
    | false =>
      rw [if_pos (ask.mpr e40)]
      dsimp only
      rw [cut69 sz1 hN]
      have cc : cutR (bL R) = cutR sn := by
        funext v
        unfold cutR
        by_cases hv : v < 20
        · rw [b3 v (by omega), b3 (20 + v) (by omega)]
        · simp [hv]
      refine ⟨sn, g1, aG g, φ, y, by rw [cc], c1, f, ⟨b4, b5, b6⟩, by rw [← b3 40 (by decide)]; exact e40⟩
    | true =>
      rw [if_neg (fun q => by rw [ask.mp q] at e40; cases e40)]
      have s40 : sn 40 = true := by rw [← b3 40 (by decide)]; exact e40
      unfold fX3_turnArcs
      rw [show (20 : Int32) = nI 20 from rfl, nI_add]
      obtain ⟨h', φ', t1, t2, t3⟩ := turn_eq (g := g1) (a := aG g) (val := (y : Int)) (told := told) gr.net s40 b7 b8 (rk 40) 40 0 fuel0 g1 φ rfl (by decide) s40 (Nat.le_refl _) (by have := b7 40 (by decide) s40; omega) (by have := b7 40 (by decide) s40; have := fuel_big; omega) rfl (f.cong (fun u v _ _ => ag u v)) (fun u v _ _ _ _ _ _ => ag u v)
      have t1' : fX3_turnArcs_l5 (nI (20 + s)) fuel0 (40 : Int32) (0 : Int32) g1 = some h' := t1
      rw [t1', ob]
      obtain ⟨R2, g2, e2, B2⟩ := reached_eq (g0 := h') (a := aG h') (st := 20 + s) (by omega) (fun _ _ _ _ => rfl)
      rw [e2, ob, nI_1]
      have ch : Core g0 h' := c1.tr ⟨fun k _ => by rw [t2], fun k _ => by rw [t2]⟩
      exact ih (y + 1) n R2 h' g2 φ' (by omega) (by omega) ch t3.up B2
