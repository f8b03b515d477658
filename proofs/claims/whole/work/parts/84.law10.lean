/-! ===== the class reads a C ===== -/
noncomputable def kC (rp : Int32 → AH → Option AH) (o x2 x3 : Int32) (n2 : Nat) : AH → Option AH := fun (g15 : AH) =>
  letT (fX4_aimHere x2 g15) (fun g16 => if (g16.1 1 3) = (124 : Int32) then letT (fX4_emit (4 : Int32) (0 : Int32) g16) (fun b18 => letT (fX10_step b18.2) (fun g19 => fX5_readChoice_l4 rp o n2 b18.1 (x3 + 1) g19)) else some g16)
noncomputable def pX (rp : Int32 → AH → Option AH) (o x2 x3 : Int32) (n1 n2 : Nat) (x4 x5 x6 : Int32) : AH → Option AH := fun b6 =>
  letT (fX4_aimHere x4 b6) (fun g8 => letT (fun (w9 : Int32) => if w9 = 0 then fX5_readChoice_l30 rp (kC rp o x2 x3 n2) o x2 x3 n1 x4 w9 (x6 + 1) g8 else letT (fX4_emit (3 : Int32) (0 : Int32) g8) (fun b12 => letT (fX10_step b12.2) (fun g13 => fX5_readChoice_l30 rp (kC rp o x2 x3 n2) o x2 x3 n1 b12.1 w9 (x6 + 1) g13))) (fun J10 => if (g8.1 1 3) = (38 : Int32) then J10 (1 : Int32) else J10 (0 : Int32)))
theorem AskX.tr' {h g k : AH} {A A' A'' : Cd} (l : LFr h g) (a : AskX h g A A') (b : AskX g k A' A'') (pre : ∀ i, i < A'.length → A''[i]? = some (1, 2) → A'[i]? = some (1, 2)) : AskX h k A A'' := by
  refine ⟨b.1, fun z => ?_⟩
  obtain ⟨z1, z2⟩ := b.2 z
  obtain ⟨z3, z4⟩ := a.2 z1
  refine ⟨z3, fun z5 i hi q => ?_⟩
  by_cases lt : i < A'.length
  · exact z4 z5 i hi (pre i lt q)
  · exact z2 (by rw [l.1 34 (by decide) (by decide) (by decide)]; exact z5) i (by omega) q
theorem aim_12 {A : Cd} {a : Option Nat} {w : Nat} (hw : w ≠ 1) (ha : ∀ i, a = some i → A[i]? = some (w, 0)) {i : Nat} (h : (aim A a)[i]? = some (1, 2)) : A[i]? = some (1, 2) := by
  by_cases e : a = some i
  · subst e
    rw [aim_at (ha i rfl)] at h
    injection Option.some.inj h with h1 h2
    exact absurd h1 hw
  · rw [aim_ne e] at h
    exact h
theorem AskX.aim {h g : AH} {A : Cd} {a : Option Nat} (ask : Ask01 h) (e : g.1 35 1 = h.1 35 1) : AskX h g A (aim A a) := ⟨by unfold Ask01; rw [e]; exact ask, fun z => ⟨by rw [← e]; exact z, fun _ i hi q => by
  have := (List.getElem?_eq_some_iff.mp q).1
  rw [aim_len] at this
  omega⟩⟩
section ClassChoice
variable {B : Nat → Int32} {n : Nat}
theorem pCLp_12 {pp : Pr} {o : Nat} (t : Txt B n) (g : GdP n pp) : ∀ (k p : Nat) (A : Cd) (r a : Option Nat) {A' : Cd} {q : Nat}, pCLp B pp o k p A r a = .inr (A', q) → p ≤ n → (∀ j, r = some j → A[j]? = some (4, 0) ∧ a ≠ some j) → (∀ i, a = some i → A[i]? = some (3, 0)) → A.length ≤ A'.length ∧ ∀ i, i < A.length → A'[i]? = some (1, 2) → A[i]? = some (1, 2) := by
  intro k
  induction k with
  | zero => intro p A r a A' q h; cases h
  | succ k ih =>
    intro p A r a A' q h hp hr ha
    have r1 : ∀ j, r = some j → (aim A a)[j]? = some (4, 0) := fun j hj => by rw [aim_ne (hr j hj).2]; exact (hr j hj).1
    unfold pCLp at h
    by_cases c1 : B p = nI 38
    · rw [if_pos c1] at h
      cases e : pp o (p + 1) (aim A a ++ [(3, 0)]) with
      | inl f => rw [e] at h; cases h
      | inr x =>
        rw [e] at h
        obtain ⟨a1, a2, a3, a4, a5⟩ := g _ _ _ _ _ e
        rw [len1, aim_len] at a3
        obtain ⟨b1, b2⟩ := ih _ _ _ _ h a2 (fun j hj => by
          have lj := (List.getElem?_eq_some_iff.mp (r1 j hj)).1
          refine ⟨by rw [a5 j (by rw [len1]; omega), get1 lj]; exact r1 j hj, fun z => ?_⟩
          have := Option.some.inj z
          omega) (fun i hi => by
          rw [← Option.some.inj hi, a5 _ (by rw [len1]; omega)]
          exact lastAt _ _)
        refine ⟨by omega, fun i hi z => ?_⟩
        have := b2 i (by omega) z
        rw [a5 i (by rw [len1, aim_len]; omega), get1 (by rw [aim_len]; omega)] at this
        exact aim_12 (by decide) ha this
    · rw [if_neg c1] at h
      by_cases c2 : B p = nI 124
      · rw [if_pos c2] at h
        cases e : pp o (p + 1) (aim (aim A a) r ++ [(4, 0)]) with
        | inl f => rw [e] at h; cases h
        | inr x =>
          rw [e] at h
          obtain ⟨a1, a2, a3, a4, a5⟩ := g _ _ _ _ _ e
          rw [len1, aim_len, aim_len] at a3
          obtain ⟨b1, b2⟩ := ih _ _ _ _ h a2 (fun j hj => by
            rw [← Option.some.inj hj, a5 _ (by rw [len1]; omega)]
            exact ⟨lastAt _ _, fun z => by cases z⟩) (fun i hi => by cases hi)
          refine ⟨by omega, fun i hi z => ?_⟩
          have := b2 i (by omega) z
          rw [a5 i (by rw [len1, aim_len, aim_len]; omega), get1 (by rw [aim_len, aim_len]; omega)] at this
          exact aim_12 (by decide) ha (aim_12 (by decide) r1 this)
      · rw [if_neg c2] at h
        injection Sum.inr.inj h with h1 h2
        subst h1
        exact ⟨by rw [aim_len, aim_len]; exact Nat.le_refl _, fun i _ z => aim_12 (by decide) ha (aim_12 (by decide) r1 z)⟩
theorem c4_fl {rp : Int32 → AH → Option AH} {o x2 x3 : Int32} {m f : Nat} {h : AH} (x : Fl f h) (hm : 0 < m) : fX5_readChoice_l4 rp o m x2 x3 h = some h := by
  obtain ⟨m, rfl⟩ : ∃ m', m = m' + 1 := ⟨m - 1, by omega⟩
  show fX5_readChoice_l4b rp (fX5_readChoice_l4 rp o m) o x2 x3 h = _
  unfold fX5_readChoice_l4b
  rw [x.sound, if_pos rfl, ite_self]
theorem kC_fl {rp : Int32 → AH → Option AH} {o x2 x3 : Int32} {m f : Nat} {h : AH} (x : Fl f h) (hm : 0 < m) : ∃ g, kC rp o x2 x3 m h = some g ∧ LFr h g ∧ Fl f g := by
  unfold kC
  rw [letT_eq]
  have w := aimHere_wd x2 h
  have x1 := w.fl x
  split
  · rw [letT_eq, letT_eq]
    have w2 := emit_wd 4 0 (fX4_aimHere x2 h)
    rw [c4_fl (w2.fl x1).step hm]
    exact ⟨_, rfl, (w.l.tr w2.l).tr (step_fr _).1.l, (w2.fl x1).step⟩
  · exact ⟨_, rfl, w.l, x1⟩
theorem c30_fl {rp : Int32 → AH → Option AH} {K : AH → Option AH} {o x2 x3 x4 x5 x6 : Int32} {m f : Nat} {h : AH} (x : Fl f h) (hm : 0 < m) : fX5_readChoice_l30 rp K o x2 x3 m x4 x5 x6 h = K h := by
  obtain ⟨m, rfl⟩ : ∃ m', m = m' + 1 := ⟨m - 1, by omega⟩
  show fX5_readChoice_l30b rp (fX5_readChoice_l30 rp K o x2 x3 m) K o x2 x3 x4 x5 x6 h = _
  unfold fX5_readChoice_l30b
  rw [x.sound, if_pos rfl, ite_self, ite_self]
theorem pX_fl {rp : Int32 → AH → Option AH} {o x2 x3 x4 x5 x6 : Int32} {n1 n2 f : Nat} {h : AH} (x : Fl f h) (h1 : 0 < n1) (h2 : 0 < n2) : ∃ g, pX rp o x2 x3 n1 n2 x4 x5 x6 h = some g ∧ LFr h g ∧ Fl f g := by
  unfold pX
  rw [letT_eq, letT_eq]
  have w := aimHere_wd x4 h
  have x1 := w.fl x
  split
  · dsimp only
    rw [if_neg d10', letT_eq, letT_eq]
    have w2 := emit_wd 3 0 (fX4_aimHere x4 h)
    have x2' := (w2.fl x1).step
    rw [c30_fl x2' h1]
    obtain ⟨g, e, l, y⟩ := kC_fl (rp := rp) (o := o) (x2 := x2) (x3 := x3) x2' h2
    exact ⟨g, e, ((w.l.tr w2.l).tr (step_fr _).1.l).tr l, y⟩
  · dsimp only
    rw [if_pos rfl, c30_fl x1 h1]
    obtain ⟨g, e, l, y⟩ := kC_fl (rp := rp) (o := o) (x2 := x2) (x3 := x3) x1 h2
    exact ⟨g, e, w.l.tr l, y⟩
theorem c30_go {rp : Int32 → AH → Option AH} {o x2 x3 : Int32} {x4 : Int32} {x6 n1 n2 p : Nat} {h : AH} (s : Sd B n p h) (hx : x6 < 200) : fX5_readChoice_l30 rp (kC rp o x2 x3 n2) o x2 x3 (n1 + 1) x4 1 (nI x6) h = (rp o h).bind (pX rp o x2 x3 n1 n2 x4 1 (nI x6)) := by
  show fX5_readChoice_l30b rp (fX5_readChoice_l30 rp (kC rp o x2 x3 n2) o x2 x3 n1) (kC rp o x2 x3 n2) o x2 x3 x4 1 (nI x6) h = _
  unfold fX5_readChoice_l30b
  rw [if_pos (show nI x6 < 200 from nI_lt (b := 200) hx (by decide)), if_neg d10', s.sound, if_neg d10']
  rfl
theorem clp_eq {pp : Pr} {rp : Int32 → AH → Option AH} {lo o : Nat} (t : Txt B n) (gf : GdP n pp) (SS : SimX B n pp rp lo) (hlo : lo ≤ o) (ho : o ≤ 6) : ∀ (k p : Nat) (A : Cd) (r a : Option Nat) (x3 x6 n1 n2 : Nat) (x5 : Int32) (h : AH), n < k + p → 2 * x6 + 1 ≤ p → 2 * x3 + 1 ≤ p → 1000 < n1 + x6 → 1000 < n2 + x3 → Tx B n h → Sd B n p h → CodX h A → Ask01 h → A.length ≤ p → (∀ j, r = some j → A[j]? = some (4, 0) ∧ a ≠ some j) → (∀ i, a = some i → A[i]? = some (3, 0)) →
    ∃ g, pX rp (nI o) (ix r) (nI x3) n1 n2 (ix a) x5 (nI x6) h = some g ∧ OutX B n h A (pCLp B pp o k p A r a) g := by
  have n200 := t.1
  intro k
  induction k with
  | zero =>
    intro p A r a x3 x6 n1 n2 x5 h h1 h2 h3 h4 h5 x s
    have := s.1
    omega
  | succ k ih =>
    intro p A r a x3 x6 n1 n2 x5 h h1 h2 h3 h4 h5 x s c ask hl hr ha
    have pn := s.1
    have r1 : ∀ j, r = some j → (aim A a)[j]? = some (4, 0) := fun j hj => by rw [aim_ne (hr j hj).2]; exact (hr j hj).1
    unfold pX pCLp
    rw [letT_eq, letT_eq]
    have w := aimHere_wd (ix a) h
    have c1 := aimHere_eq (a := a) c (by omega) (fun i hi => ⟨3, ha i hi⟩)
    have s1 := w.sd s
    have x1 := x.frL w.l
    have a1 : AskX h (fX4_aimHere (ix a) h) A (aim A a) := AskX.aim ask (w.2.1 1 (by decide))
    have bk1 : ∀ i, (aim A a)[i]? = some (1, 2) → A[i]? = some (1, 2) := fun i z => aim_12 (by decide) ha z
    generalize fX4_aimHere (ix a) h = g8 at w c1 s1 x1 a1
    rw [s1.2.2.1]
    by_cases c38 : B p = nI 38
    · have pn' := t.lit (by decide) c38
      rw [if_pos (show B p = 38 from c38), if_pos c38]
      dsimp only
      rw [if_neg d10', letT_eq, letT_eq]
      have w2 := emit_wd 3 0 g8
      obtain ⟨i2, c2⟩ := emit_eq (o := 3) (k := 0) c1 (by rw [aim_len]; omega) (by decide) (by decide)
      rw [show nI 3 = 3 from rfl, show nI 0 = 0 from rfl] at i2 c2
      have a2 : AskX g8 (fX4_emit 3 0 g8).2 (aim A a) (aim A a ++ [(3, 0)]) := AskX.keep a1.1 (w2.2.1 1 (by decide)) (by simp)
      generalize fX4_emit 3 0 g8 = b12 at w2 i2 c2 a2
      have f3 := (step_fr b12.2).1
      have s3 := step_sd t (x1.frL w2.l) (w2.sd s1) pn'
      have a3 : AskX h (fX10_step b12.2) A (aim A a ++ [(3, 0)]) := by
        have := a1.tr' w.l a2 (fun i hi z => by rw [get1 hi] at z; exact z)
        exact this.tr' (w.l.tr w2.l) (AskX.eq a2.1 (by rw [f3.1 35 (by decide)])) (fun i hi z => z)
      obtain ⟨n1, rfl⟩ : ∃ m', n1 = m' + 1 := ⟨n1 - 1, by omega⟩
      rw [nI_1, c30_go s3 (by omega), i2]
      obtain ⟨g, e, l, o1, o2⟩ := SS o (p + 1) (aim A a ++ [(3, 0)]) (fX10_step b12.2) hlo ho ((x1.frL w2.l).fr f3) s3 (c2.fr f3) a3.1 (by rw [len1, aim_len]; omega)
      have lf := ((w.l.tr w2.l).tr f3.l).tr l
      rw [e, ob]
      cases er : pp o (p + 1) (aim A a ++ [(3, 0)]) with
      | inl f0 =>
        obtain ⟨g', e', l', x'⟩ := pX_fl (rp := rp) (o := nI o) (x2 := ix r) (x3 := nI x3) (x4 := nI (aim A a).length) (x5 := 1) (x6 := nI (x6 + 1)) (n1 := n1) (n2 := n2) (o1 f0 er) (by omega) (by omega)
        exact ⟨g', e', OutX.inl (lf.tr l') x'⟩
      | inr Aq =>
        obtain ⟨A', q⟩ := Aq
        obtain ⟨g1, g2, g3, g4, g5⟩ := gf _ _ _ _ _ er
        rw [len1, aim_len] at g3 g4
        obtain ⟨s4, c4, a4⟩ := o2 A' q er
        have a5 : AskX h g A A' := a3.tr' ((w.l.tr w2.l).tr f3.l) a4 (fun i hi z => by rw [g5 i hi] at z; exact z)
        have hr' : ∀ j, r = some j → A'[j]? = some (4, 0) ∧ some (aim A a).length ≠ some j := fun j hj => by
          have lj := (List.getElem?_eq_some_iff.mp (r1 j hj)).1
          refine ⟨by rw [g5 j (by rw [len1]; omega), get1 lj]; exact r1 j hj, fun z => ?_⟩
          have := Option.some.inj z
          omega
        have ha' : ∀ i, some (aim A a).length = some i → A'[i]? = some (3, 0) := fun i hi => by
          rw [← Option.some.inj hi, g5 _ (by rw [len1]; omega)]
          exact lastAt _ _
        obtain ⟨g', e', l', p1, p2⟩ := ih q A' r (some (aim A a).length) x3 (x6 + 1) n1 n2 1 g (by omega) (by omega) (by omega) (by omega) h5 (((x1.frL w2.l).fr f3).frL l) s4 c4 a4.1 (by omega) hr' ha'
        refine ⟨g', e', lf.tr l', p1, fun A'' q' z => ?_⟩
        obtain ⟨y1, y2, y3⟩ := p2 A'' q' z
        obtain ⟨-, u2⟩ := pCLp_12 t gf k q _ _ _ z g2 hr' ha'
        exact ⟨y1, y2, a5.tr' lf y3 u2⟩
    · rw [if_neg (show ¬ B p = 38 from c38), if_neg c38]
      dsimp only
      rw [if_pos rfl]
      obtain ⟨n1, rfl⟩ : ∃ m', n1 = m' + 1 := ⟨n1 - 1, by omega⟩
      have st : fX5_readChoice_l30 rp (kC rp (nI o) (ix r) (nI x3) n2) (nI o) (ix r) (nI x3) (n1 + 1) (ix a) 0 (nI x6 + 1) g8 = kC rp (nI o) (ix r) (nI x3) n2 g8 := by
        show fX5_readChoice_l30b rp (fX5_readChoice_l30 rp (kC rp (nI o) (ix r) (nI x3) n2) (nI o) (ix r) (nI x3) n1) (kC rp (nI o) (ix r) (nI x3) n2) (nI o) (ix r) (nI x3) (ix a) 0 (nI x6 + 1) g8 = _
        unfold fX5_readChoice_l30b
        rw [if_pos rfl, ite_self]
      rw [st]
      unfold kC
      rw [letT_eq]
      have w2 := aimHere_wd (ix r) g8
      have c2 := aimHere_eq (a := r) c1 (by rw [aim_len]; omega) (fun j hj => ⟨4, r1 j hj⟩)
      have a2 : AskX g8 (fX4_aimHere (ix r) g8) (aim A a) (aim (aim A a) r) := AskX.aim a1.1 (w2.2.1 1 (by decide))
      generalize fX4_aimHere (ix r) g8 = g16 at w2 c2 a2
      have s2 := w2.sd s1
      have x2 := x1.frL w2.l
      have bk2 : ∀ i, (aim (aim A a) r)[i]? = some (1, 2) → (aim A a)[i]? = some (1, 2) := fun i z => aim_12 (by decide) r1 z
      have a12 : AskX h g16 A (aim (aim A a) r) := a1.tr' w.l a2 (fun i _ z => bk2 i z)
      rw [s2.2.2.1]
      by_cases c124 : B p = nI 124
      · have pn' := t.lit (by decide) c124
        rw [if_pos (show B p = 124 from c124), if_pos c124, letT_eq, letT_eq]
        have w3 := emit_wd 4 0 g16
        obtain ⟨i3, c3⟩ := emit_eq (o := 4) (k := 0) c2 (by rw [aim_len, aim_len]; omega) (by decide) (by decide)
        rw [show nI 4 = 4 from rfl, show nI 0 = 0 from rfl] at i3 c3
        have a3 : AskX g16 (fX4_emit 4 0 g16).2 (aim (aim A a) r) (aim (aim A a) r ++ [(4, 0)]) := AskX.keep a2.1 (w3.2.1 1 (by decide)) (by simp)
        generalize fX4_emit 4 0 g16 = b18 at w3 i3 c3 a3
        have f4 := (step_fr b18.2).1
        have s4 := step_sd t (x2.frL w3.l) (w3.sd s2) pn'
        have l3 := (w.l.tr w2.l).tr w3.l
        have a4 : AskX h (fX10_step b18.2) A (aim (aim A a) r ++ [(4, 0)]) := by
          have := a12.tr' (w.l.tr w2.l) a3 (fun i hi z => by rw [get1 hi] at z; exact z)
          exact this.tr' l3 (AskX.eq a3.1 (by rw [f4.1 35 (by decide)])) (fun i hi z => z)
        obtain ⟨n2, rfl⟩ : ∃ m', n2 = m' + 1 := ⟨n2 - 1, by omega⟩
        rw [nI_1, i3]
        show ∃ g', fX5_readChoice_l4b rp (fX5_readChoice_l4 rp (nI o) n2) (nI o) (nI (aim (aim A a) r).length) (nI (x3 + 1)) (fX10_step b18.2) = some g' ∧ _
        unfold fX5_readChoice_l4b
        rw [if_pos (show nI (x3 + 1) < 200 from nI_lt (b := 200) (by omega) (by decide)), s4.sound, if_neg d10']
        obtain ⟨m, hm⟩ := fuel_plus 1 (by decide)
        have fb := fuel_big
        show ∃ g', fX5_readChoice_l30 rp (kC rp (nI o) (ix (some (aim (aim A a) r).length)) (nI (x3 + 1)) n2) (nI o) (ix (some (aim (aim A a) r).length)) (nI (x3 + 1)) fuel0 (-1) 1 (nI 0) (fX10_step b18.2) = some g' ∧ _
        rw [hm, c30_go s4 (by decide)]
        obtain ⟨g, e, l, o1, o2⟩ := SS o (p + 1) (aim (aim A a) r ++ [(4, 0)]) (fX10_step b18.2) hlo ho ((x2.frL w3.l).fr f4) s4 (c3.fr f4) a4.1 (by rw [len1, aim_len, aim_len]; omega)
        have lf := (l3.tr f4.l).tr l
        rw [e, ob]
        cases er : pp o (p + 1) (aim (aim A a) r ++ [(4, 0)]) with
        | inl f0 =>
          obtain ⟨g', e', l', x'⟩ := pX_fl (rp := rp) (o := nI o) (x2 := ix (some (aim (aim A a) r).length)) (x3 := nI (x3 + 1)) (x4 := -1) (x5 := 1) (x6 := nI 0) (n1 := m) (n2 := n2) (o1 f0 er) (by omega) (by omega)
          exact ⟨g', e', OutX.inl (lf.tr l') x'⟩
        | inr Aq =>
          obtain ⟨A', q⟩ := Aq
          obtain ⟨g1, g2, g3, g4, g5⟩ := gf _ _ _ _ _ er
          rw [len1, aim_len, aim_len] at g3 g4
          obtain ⟨s5, c5, a5⟩ := o2 A' q er
          have a6 : AskX h g A A' := a4.tr' (l3.tr f4.l) a5 (fun i hi z => by rw [g5 i hi] at z; exact z)
          have hr' : ∀ j, some (aim (aim A a) r).length = some j → A'[j]? = some (4, 0) ∧ (none : Option Nat) ≠ some j := fun j hj => by
            rw [← Option.some.inj hj, g5 _ (by rw [len1]; omega)]
            exact ⟨lastAt _ _, fun z => by cases z⟩
          have ha' : ∀ i, (none : Option Nat) = some i → A'[i]? = some (3, 0) := fun i hi => by cases hi
          obtain ⟨g', e', l', p1, p2⟩ := ih q A' (some (aim (aim A a) r).length) none (x3 + 1) 0 m n2 1 g (by omega) (by omega) (by omega) (by omega) (by omega) (((x2.frL w3.l).fr f4).frL l) s5 c5 a5.1 (by omega) hr' ha'
          refine ⟨g', e', lf.tr l', p1, fun A'' q' z => ?_⟩
          obtain ⟨y1, y2, y3⟩ := p2 A'' q' z
          obtain ⟨-, u2⟩ := pCLp_12 t gf k q _ _ _ z g2 hr' ha'
          exact ⟨y1, y2, a6.tr' lf y3 u2⟩
      · rw [if_neg (show ¬ B p = 124 from c124), if_neg c124]
        exact ⟨g16, rfl, OutX.inr (w.l.tr w2.l) s2 c2 a12⟩
theorem readChoice_sim {pp : Pr} {rp : Int32 → AH → Option AH} {lo : Nat} (t : Txt B n) (gf : GdP n pp) (SS : SimX B n pp rp lo) : SimX B n (pChoice B pp) (fX5_readChoice rp) lo := by
  intro o p A h hlo ho x s c ask hl
  have n200 := t.1
  have pn := s.1
  unfold fX5_readChoice pChoice
  obtain ⟨m, hm⟩ := fuel_plus 1 (by decide)
  have fb := fuel_big
  have un : fX5_readChoice_l4 rp (nI o) fuel0 (-1) 0 h = fX5_readChoice_l4b rp (fX5_readChoice_l4 rp (nI o) m) (nI o) (-1) 0 h := by rw [hm]; rfl
  rw [un]
  unfold fX5_readChoice_l4b
  rw [if_pos (by decide), s.sound, if_neg d10']
  show ∃ g', fX5_readChoice_l30 rp (kC rp (nI o) (ix none) (nI 0) m) (nI o) (ix none) (nI 0) fuel0 (-1) 1 (nI 0) h = some g' ∧ _
  have un2 : fX5_readChoice_l30 rp (kC rp (nI o) (ix none) (nI 0) m) (nI o) (ix none) (nI 0) fuel0 (-1) 1 (nI 0) h = fX5_readChoice_l30 rp (kC rp (nI o) (ix none) (nI 0) m) (nI o) (ix none) (nI 0) (m + 1) (-1) 1 (nI 0) h := by rw [hm]
  rw [un2, c30_go s (by decide)]
  obtain ⟨g, e, l, o1, o2⟩ := SS o p A h hlo ho x s c ask hl
  rw [e, ob]
  cases er : pp o p A with
  | inl f0 =>
    obtain ⟨g', e', l', x'⟩ := pX_fl (rp := rp) (o := nI o) (x2 := ix none) (x3 := nI 0) (x4 := -1) (x5 := 1) (x6 := nI 0) (n1 := m) (n2 := m) (o1 f0 er) (by omega) (by omega)
    exact ⟨g', e', OutX.inl (l.tr l') x'⟩
  | inr Aq =>
    obtain ⟨A', q⟩ := Aq
    obtain ⟨g1, g2, g3, g4, g5⟩ := gf _ _ _ _ _ er
    obtain ⟨s5, c5, a5⟩ := o2 A' q er
    have hr' : ∀ j, (none : Option Nat) = some j → A'[j]? = some (4, 0) ∧ (none : Option Nat) ≠ some j := fun j hj => by cases hj
    have ha' : ∀ i, (none : Option Nat) = some i → A'[i]? = some (3, 0) := fun i hi => by cases hi
    obtain ⟨g', e', l', p1, p2⟩ := clp_eq t gf SS hlo ho 201 q A' none none 0 0 m m 1 g (by omega) (by omega) (by omega) (by omega) (by omega) (x.frL l) s5 c5 a5.1 (by omega) hr' ha'
    refine ⟨g', e', l.tr l', p1, fun A'' q' z => ?_⟩
    obtain ⟨y1, y2, y3⟩ := p2 A'' q' z
    obtain ⟨-, u2⟩ := pCLp_12 t gf 201 q _ _ _ z g2 hr' ha'
    exact ⟨y1, y2, a5.tr' l y3 u2⟩
theorem readPiece_sim {pp pc : Pr} {rp rc : Int32 → AH → Option AH} {lo : Nat} (t : Txt B n) (gp : GdP n pp) (gc : GdP n pc) (SP : SimX B n pp rp (lo + 1)) (SC : SimX B n pc rc (lo + 1)) : SimX B n (pPiece B pp pc) (fX5_readPiece rp rc) lo := by
  intro o p A h hlo ho x s c ask hl
  have n200 := t.1
  have p200 := s.1
  unfold fX5_readPiece pPiece
  rw [s.2.2.1]
  have f1 := (step_fr h).1
  have ask1 : Ask01 (fX10_step h) := by unfold Ask01; rw [f1.1 35 (by decide)]; exact ask
  have ak1 : AskX h (fX10_step h) A A := AskX.eq ask (by rw [f1.1 35 (by decide)])
  by_cases c33 : B p = nI 33
  · have pn := t.lit (by decide) c33
    obtain ⟨m1, m2⟩ := mayOpen_eq t x s pn ho
    rw [if_pos (show B p = 33 from c33), if_pos c33]
    by_cases o6 : o < 6
    · rw [m1 o6, ob, if_neg d10', if_pos o6, nI_1]
      obtain ⟨g, e, l, i1, i2⟩ := SP (o + 1) (p + 1) A (fX10_step h) (by omega) (by omega) (x.fr f1) (step_sd t x s pn) (c.fr f1) ask1 (by omega)
      rw [e, ob, letT_eq]
      have w := emit_wd 2 0 g
      refine ⟨_, rfl, ?_⟩
      cases er : pp (o + 1) (p + 1) A with
      | inl f0 => exact OutX.inl ((f1.l.tr l).tr w.l) (w.fl (i1 f0 er))
      | inr Aq =>
        obtain ⟨A', q⟩ := Aq
        obtain ⟨g1, g2, g3, g4, g5⟩ := gp _ _ _ _ _ er
        obtain ⟨s2, c2, a2⟩ := i2 A' q er
        obtain ⟨-, c3⟩ := emit_eq (o := 2) (k := 0) c2 (by omega) (by decide) (by decide)
        rw [show nI 2 = 2 from rfl, show nI 0 = 0 from rfl] at c3
        have a3 := ak1.tr' f1.l a2 (fun i hi z => by rw [g5 i hi] at z; exact z)
        exact OutX.inr ((f1.l.tr l).tr w.l) (w.sd s2) c3 (a3.tr' (f1.l.tr l) (AskX.keep a2.1 (w.2.1 1 (by decide)) (by simp)) (fun i hi z => by rw [get1 hi] at z; exact z))
    · obtain ⟨g, e, fr, x1⟩ := m2 o6
      have w := emit_wd 2 0 g
      rw [e, ob, if_pos rfl, letT_eq, if_neg o6]
      exact ⟨_, rfl, OutX.inl (fr.l.tr w.l) (w.fl x1)⟩
  · rw [if_neg (show ¬ B p = 33 from c33), if_neg c33]
    by_cases c40 : B p = nI 40
    · have pn := t.lit (by decide) c40
      obtain ⟨m1, m2⟩ := mayOpen_eq t x s pn ho
      rw [if_pos (show B p = 40 from c40), if_pos c40]
      by_cases o6 : o < 6
      · rw [m1 o6, ob, if_neg d10', if_pos o6, nI_1]
        obtain ⟨g, e, l, i1, i2⟩ := SC (o + 1) (p + 1) A (fX10_step h) (by omega) (by omega) (x.fr f1) (step_sd t x s pn) (c.fr f1) ask1 (by omega)
        rw [e, ob, letT_eq]
        have f2 := expect_fr 41 g
        refine ⟨_, rfl, ?_⟩
        cases er : pc (o + 1) (p + 1) A with
        | inl f0 => exact OutX.inl ((f1.l.tr l).tr f2.l) (i1 f0 er).expect
        | inr Aq =>
          obtain ⟨A', q⟩ := Aq
          obtain ⟨g1, g2, g3, g4, g5⟩ := gc _ _ _ _ _ er
          obtain ⟨s2, c2, a2⟩ := i2 A' q er
          obtain ⟨ex1, ex2⟩ := s2.expect (k := 41) t ((x.fr f1).frL l) (by decide)
          dsimp only
          by_cases c41 : B q = nI 41
          · rw [if_pos c41]
            have a3 := ak1.tr' f1.l a2 (fun i hi z => by rw [g5 i hi] at z; exact z)
            exact OutX.inr ((f1.l.tr l).tr f2.l) (ex1 c41) (c2.fr f2) (a3.tr' (f1.l.tr l) (AskX.eq a2.1 (by rw [f2.1 35 (by decide)])) (fun i hi z => z))
          · rw [if_neg c41]
            exact OutX.inl ((f1.l.tr l).tr f2.l) (ex2 c41)
      · obtain ⟨g, e, fr, x1⟩ := m2 o6
        rw [e, ob, if_pos rfl, letT_eq, if_neg o6]
        exact ⟨_, rfl, OutX.inl (fr.l.tr (expect_fr 41 g).l) x1.expect⟩
    · rw [if_neg (show ¬ B p = 40 from c40), if_neg c40]
      obtain ⟨g, e, l, i1, i2⟩ := readSumD_sim t 8 o p A h (by omega) ho x s c ask hl
      rw [e, ob, letT_eq, letT_eq]
      cases er : pSumD B 8 o p A with
      | inl f0 =>
        have x1 := i1 f0 er
        -- all the rest in a fault
        have rest : ∀ v5 g6, Fl f0 g6 → ∃ g', letT (fX10_step g6) (fun g8 => (fX5_readSumD 8 (nI o) g8).bind (fun b9 => letT (fX4_emit v5 (0 : Int32) b9) (fun b11 => some b11.2))) = some g' ∧ LFr g6 g' ∧ Fl f0 g' := fun v5 g6 y => by
          have w := emit_wd v5 0 (fX10_step g6)
          rw [letT_eq, readSumD_fl y.step, ob, letT_eq]
          exact ⟨_, rfl, (step_fr g6).1.l.tr w.l, w.fl y.step⟩
        dsimp only
        split
        · rw [letT_eq]
          obtain ⟨g', e', l', y⟩ := rest _ _ x1.failHere
          exact ⟨g', e', OutX.inl ((l.tr (failHere_fr g).l).tr l') y⟩
        · obtain ⟨g', e', l', y⟩ := rest _ _ x1
          exact ⟨g', e', OutX.inl (l.tr l') y⟩
      | inr Aq =>
        obtain ⟨A1, q⟩ := Aq
        obtain ⟨g1, g2, g3, g4, g5⟩ := pSumD_gd t 8 _ _ _ _ _ er
        obtain ⟨s2, c2, a2⟩ := i2 A1 q er
        have x2 := x.frL l
        rw [(s2.among t), (s2.among t)]
        dsimp only
        cases ec : cmpI (B q) with
        | none =>
          rw [if_pos (cmp_amg.2 ec), letT_eq]
          have y := s2.failHere t
          have w := emit_wd (5 + amg (bytS.getD 1 []) (B q)) 0 (fX10_step (fX10_failHere g))
          rw [letT_eq, readSumD_fl y.step, ob, letT_eq]
          exact ⟨_, rfl, OutX.inl (((l.tr (failHere_fr g).l).tr (step_fr _).1.l).tr w.l) (w.fl y.step)⟩
        | some i =>
          obtain ⟨m1, m2⟩ := cmp_amg.1 i ec
          obtain ⟨qn, j1, j2⟩ := cmp_in t ec
          rw [if_neg m1, m2, show (5 : Int32) = nI 5 from rfl, nI_add, letT_eq]
          have f3 := (step_fr g).1
          have a23 : AskX h (fX10_step g) A A1 := a2.tr' l (AskX.eq a2.1 (by rw [f3.1 35 (by decide)])) (fun i hi z => z)
          obtain ⟨g', e', l', k1, k2⟩ := readSumD_sim t 8 o (q + 1) A1 (fX10_step g) (by omega) ho (x2.fr f3) (step_sd t x2 s2 qn) (c2.fr f3) a23.1 (by omega)
          rw [e', ob, letT_eq]
          have w := emit_wd (nI (5 + i)) 0 g'
          have lf := ((l.tr f3.l).tr l').tr w.l
          refine ⟨_, rfl, ?_⟩
          cases er2 : pSumD B 8 o (q + 1) A1 with
          | inl f0 => exact OutX.inl lf (w.fl (k1 f0 er2))
          | inr Aq2 =>
            obtain ⟨A2, r⟩ := Aq2
            obtain ⟨u1, u2, u3, u4, u5⟩ := pSumD_gd t 8 _ _ _ _ _ er2
            obtain ⟨s5, c5, a5⟩ := k2 A2 r er2
            obtain ⟨-, c6⟩ := emit_eq (o := 5 + i) (k := 0) c5 (by omega) (by omega) (by decide)
            rw [show nI 0 = 0 from rfl] at c6
            have a6 := a23.tr' (l.tr f3.l) a5 (fun i hi z => by rw [u5 i hi] at z; exact z)
            exact OutX.inr lf (w.sd s5) c6 (a6.tr' ((l.tr f3.l).tr l') (AskX.keep a5.1 (w.2.1 1 (by decide)) (by simp)) (fun i hi z => by rw [get1 hi] at z; exact z))
theorem readPieceD_sim (t : Txt B n) : ∀ d, SimX B n (pPieceD B d) (fX5_readPieceD d) (9 - d) := by
  intro d
  induction d with
  | zero => intro o p A h h1 h2; omega
  | succ d ih =>
    have g := pPieceD_gd t d
    have up : ∀ {P : Pr} {f}, SimX B n P f (9 - d) → SimX B n P f (9 - (d + 1) + 1) := fun S o p A h h1 h2 => S o p A h (by omega) h2
    exact readPiece_sim t g (pChoice_gd t g) (up ih) (up (readChoice_sim t g ih))
theorem readChoiceD_sim (t : Txt B n) : SimX B n (pChoice B (pPieceD B 8)) (fX5_readChoiceD 8) 1 := readChoice_sim t (pPieceD_gd t 8) (readPieceD_sim t 8)
theorem readChoiceD_fl {f : Nat} {o : Int32} {h : AH} (x : Fl f h) : fX5_readChoiceD 8 o h = some h := by
  show fX5_readChoice (fX5_readPieceD 8) o h = some h
  unfold fX5_readChoice
  exact c4_fl x (by have := fuel_big; omega)
end ClassChoice
