def lim (t : Nat → Nat) (o : Option Nat) : Nat := o.elim 11 t
def HR (g : AH) (M : Nat) (o : Option Nat) : Prop := ∀ b, o = some b → g.1 52 1 = nI (b / M) ∧ g.1 52 2 = nI (b % M)
theorem lim_lt {t : Nat → Nat} (ht : ∀ c, t c ≤ 10) (c : Nat) (o : Option Nat) : (o.elim true (fun b => decide (t c < t b))) = decide (t c < lim t o) := by
  cases o with
  | none => have := ht c; exact (decide_eq_true (show t c < 11 by omega)).symm
  | some b => rfl
theorem hst_skip {M c : Nat} {T : Rw} {t : Nat → Nat} {o : Option Nat} (ht : ∀ c, t c ≤ 10) (h : ¬ t c < lim t o) : hst M T t c o = o := by
  unfold hst
  rw [lim_lt ht, decide_eq_false h]
  split
  · rfl
  · rfl
theorem hideAt_eq {N M x n i : Nat} {h g : AH} {L : Nat → Int32} {C V : Nat → Rw → Int32} {P : Int32} {T : Rw} {t : Nat → Nat} (H : ScN N M x h) (X : Lx h n L C V) (c : Core h g) (hi : i < N) (ht : tot h N M n L C P = t) (e49 : eqOn N (g.1 49) T) (hr : HR g M (hbest M T t (i * M))) : ∃ g', fX11_hideAt (nI i) P (nI (lim t (hbest M T t (i * M)))) g = some (nI (lim t (hbest M T t (i * M + M))), g') ∧ Core h g' ∧ eqOn N (g'.1 49) T ∧ HR g' M (hbest M T t (i * M + M)) := by
  have hN := H.N
  have hM := H.M97
  have t10 : ∀ c, t c ≤ 10 := fun c => by rw [← ht]; exact tot_le
  have limle : ∀ o, lim t o ≤ 11 := fun o => by
    cases o with
    | none => exact Nat.le_refl _
    | some b => have := t10 b; show t b ≤ 11; omega
  unfold fX11_hideAt
  obtain ⟨s, e, e1, -, q⟩ := for_exx (F := fun m xx (s : Int32 × Int32 × AH) => fX11_hideAt_l9 (nI i) P m s.1 s.2.1 xx s.2.2) (fun s => some (s.1, s.2.2)) M (by omega) (fun v s => s.1 = nI (lim t (hbest M T t (i * M + v))) ∧ (s.2.1 = 0 ∨ (s.2.1 = 1 ∧ ∃ v0, v0 < M ∧ lim t (hbest M T t (i * M + v)) ≤ t (i * M + v0))) ∧ Core h s.2.2 ∧ eqOn N (s.2.2.1 49) T ∧ HR s.2.2 M (hbest M T t (i * M + v))) (fun m v s hv hI => by
      obtain ⟨a, b, g'⟩ := s
      obtain ⟨ea, eb, cg, q49, qr⟩ := hI
      dsimp only at ea eb cg q49 qr
      subst ea
      have Hg := H.core cg
      show (∃ s', fX11_hideAt_l9b (fX11_hideAt_l9 (nI i) P m) (nI i) P (nI (lim t (hbest M T t (i * M + v)))) b (nI v) g' = _ ∧ _) ∨ (∃ s', fX11_hideAt_l9b (fX11_hideAt_l9 (nI i) P m) (nI i) P (nI (lim t (hbest M T t (i * M + v)))) b (nI v) g' = _ ∧ _)
      unfold fX11_hideAt_l9b
      obtain ⟨d1, d2⟩ := code_dm (i := i) hv
      have st : hbest M T t (i * M + (v + 1)) = hst M T t (i * M + v) (hbest M T t (i * M + v)) := hbest_succ
      generalize ho : hbest M T t (i * M + v) = o at eb qr st
      have lo := limle o
      rw [Hg.eX, if_pos (nI_lt hv (by omega))]
      by_cases z : 0 < lim t o
      · left
        rw [if_pos (show (0 : Int32) < nI (lim t o) from nI_lt (a := 0) z (by omega)), at_in (show i < aln 49 by show _ < 20; omega), q49 i hi, nI_1]
        by_cases e : nI v = T i
        · rw [if_pos e]
          have hs : hst M T t (i * M + v) o = o := by unfold hst; rw [d1, d2, if_pos e]
          rw [hs] at st
          rw [st]
          exact ⟨(nI (lim t o), b, g'), rfl, rfl, eb, cg, q49, qr⟩
        · rw [if_neg e]
          have try1 : ∃ s' : Int32 × Int32 × AH, ((fX11_findersOf (nI i) (nI v) P (nI (lim t o)) g').bind (fun b5 => if b5.1 < nI (lim t o) then fX11_hideAt_l9 (nI i) P m b5.1 (1 : Int32) (nI (v + 1)) (fX11_put 52 (2 : Int32) (nI v) (fX11_put 52 (1 : Int32) (nI i) b5.2)) else fX11_hideAt_l9 (nI i) P m (nI (lim t o)) (1 : Int32) (nI (v + 1)) b5.2)) = fX11_hideAt_l9 (nI i) P m s'.1 s'.2.1 (nI (v + 1)) s'.2.2 ∧ s'.1 = nI (lim t (hbest M T t (i * M + (v + 1)))) ∧ (s'.2.1 = 0 ∨ (s'.2.1 = 1 ∧ ∃ v0, v0 < M ∧ lim t (hbest M T t (i * M + (v + 1))) ≤ t (i * M + v0))) ∧ Core h s'.2.2 ∧ eqOn N (s'.2.2.1 49) T ∧ HR s'.2.2 M (hbest M T t (i * M + (v + 1))) := by
            obtain ⟨g2, e2, f2⟩ := findersOf_eq (P := P) H X cg hi hv lo z
            rw [ht] at e2
            have tc := t10 (i * M + v)
            rw [e2, ob]
            dsimp only
            by_cases lt : t (i * M + v) < lim t o
            · rw [Nat.min_eq_left (by omega), if_pos (nI_lt lt (by omega))]
              have hs : hst M T t (i * M + v) o = some (i * M + v) := by
                unfold hst
                rw [d1, d2, if_neg e, lim_lt t10, decide_eq_true lt]
                rfl
              rw [hs] at st
              rw [st]
              have p1 : ∀ v h, fX11_put 52 (1 : Int32) v h = sI h 52 1 v := fun v h => put_in (i := 1) (by decide)
              have p2 : ∀ v h, fX11_put 52 (2 : Int32) v h = sI h 52 2 v := fun v h => put_in (i := 2) (by decide)
              rw [p1, p2]
              refine ⟨(nI (t (i * M + v)), 1, sI (sI g2 52 1 (nI i)) 52 2 (nI v)), rfl, rfl, Or.inr ⟨rfl, v, hv, Nat.le_refl _⟩, ((cg.tr f2.core).tr (Core.sR (a := 52) rfl)).tr (Core.sR (a := 52) rfl), ?_, ?_⟩
              · show eqOn N (g2.1 49) T
                rw [f2.1 49 (by decide) (by decide) (by decide)]
                exact q49
              · intro b' hb'
                have : b' = i * M + v := (Option.some.inj hb').symm
                subst this
                rw [d1, d2]
                exact ⟨rfl, rfl⟩
            · rw [Nat.min_eq_right (by omega), if_neg (nI_nlt (Nat.le_refl _) (by omega))]
              rw [hst_skip t10 lt] at st
              rw [st]
              refine ⟨(nI (lim t o), 1, g2), rfl, rfl, Or.inr ⟨rfl, v, hv, by omega⟩, cg.tr f2.core, ?_, ?_⟩
              · show eqOn N (g2.1 49) T
                rw [f2.1 49 (by decide) (by decide) (by decide)]
                exact q49
              · intro b' hb'
                rw [f2.1 52 (by decide) (by decide) (by decide)]
                exact qr b' hb'
          dsimp only [letT]
          rcases eb with rfl | ⟨rfl, v0, hv0, hle⟩
          · rw [if_pos rfl]
            exact try1
          · rw [if_neg (by decide), cg.P 42 1 (by decide)]
            by_cases asks : h.1 42 1 = 0
            · rw [if_pos asks]
              have al := tot_alike (P := P) (N := N) (i := i) X asks hv hv0
              rw [ht] at al
              rw [hst_skip t10 (by omega)] at st
              rw [st]
              exact ⟨(nI (lim t o), 1, g'), rfl, rfl, Or.inr ⟨rfl, v0, hv0, hle⟩, cg, q49, qr⟩
            · rw [if_neg asks]
              exact try1
      · right
        rw [if_neg (show ¬ (0 : Int32) < nI (lim t o) from nI_nlt (a := 0) (by omega) (by decide))]
        cases o with
        | none => exact absurd (show 0 < lim t none from Nat.succ_pos 10) z
        | some b0 =>
          have hz : t b0 = 0 := by
            have : ¬ 0 < t b0 := z
            omega
          rw [hbest_zero (k := i * M + v) (n := i * M + M) (by omega) ho hz]
          exact ⟨(nI (lim t (some b0)), b, g'), rfl, rfl, eb, cg, q49, qr⟩) (fun m s hI => by
      show fX11_hideAt_l9b (fX11_hideAt_l9 (nI i) P m) (nI i) P s.1 s.2.1 (nI M) s.2.2 = _
      unfold fX11_hideAt_l9b
      rw [(H.core hI.2.2.1).eX, if_neg (nI_nlt (Nat.le_refl _) (by omega))]) fuel0 0 (nI (lim t (hbest M T t (i * M))), 0, g) (by omega) (by have := fuel_big; omega) ⟨rfl, Or.inl rfl, c, e49, hr⟩
  refine ⟨s.2.2, Eq.trans e ?_, q⟩
  rw [e1]
theorem hiddenX {N M x n p : Nat} {h : AH} {L : Nat → Int32} {C V : Nat → Rw → Int32} {P : Int32} {T : Rw} {t : Nat → Nat} (H : ScN N M x h) (X : Lx h n L C V) (ht : tot h N M n L C P = t) (hT : T = wk (mX h) 0 N (h.1 49)) (h0 : 0 < N) (hP1 : ¬ P < 0) (hP2 : ¬ (1023 : Int32) < P) (hP3 : ¬ P = 0) (hp : p ≤ 2) : ∃ h1 r, xo_hidden P (nI p) h = some (r, h1) ∧ Core h h1 ∧ (∀ b, hbest M T t (N * M) = some b → r = if p = 0 then nI (b / M) else if p = 1 then nI (b % M) else nI (t b)) := by
  have hN := H.N
  have t10 : ∀ c, t c ≤ 10 := fun c => by rw [← ht]; exact tot_le
  have limle : ∀ o, lim t o ≤ 11 := fun o => by
    cases o with
    | none => exact Nat.le_refl _
    | some b => have := t10 b; show t b ≤ 11; omega
  unfold xo_hidden fX11_hidden
  rw [areHearers_yes hP1 hP2, if_neg (by decide), if_neg hP3, if_neg (nI_pos (by omega)), if_neg (show ¬ (2 : Int32) < nI p from nI_nlt (a := 2) (by omega) (by decide)), H.sX, if_neg (show ¬ nI N = 0 from ne_lit (j := 0) (by omega) (by decide) (by omega)), truth_eq H.WX off49 (by decide), ob, ← hT]
  obtain ⟨r0, e3, f0⟩ := forget_eq (h := sR h 49 T)
  rw [e3, ob]
  have c3 : Core h (sR (sR h 49 T) 52 r0) := (Core.sR rfl).tr (Core.sR rfl)
  have q49 : eqOn N ((sR (sR h 49 T) 52 r0).1 49) T := fun _ _ => rfl
  generalize sR (sR h 49 T) 52 r0 = g3 at c3 q49
  generalize hK : (fun (y14 : Int32) (g15 : AH) => if nI p = (2 : Int32) then some (y14, g15) else some (fX11_at 52 (nI p + (1 : Int32)) g15, g15)) = K
  obtain ⟨s, e, e1, qc, -, qr⟩ := for_exx (F := fun m xx (s : Int32 × AH) => fX11_hidden_l57 K P (nI p) m s.1 xx s.2) (fun s => K s.1 s.2) N (by omega) (fun i s => s.1 = nI (lim t (hbest M T t (i * M))) ∧ Core h s.2 ∧ eqOn N (s.2.1 49) T ∧ HR s.2 M (hbest M T t (i * M))) (fun m i s hi hI => by
      obtain ⟨a, g⟩ := s
      obtain ⟨ea, cg, q49, qr⟩ := hI
      dsimp only at ea cg q49 qr
      subst ea
      show (∃ s', fX11_hidden_l57b (fX11_hidden_l57 K P (nI p) m) K P (nI p) (nI (lim t (hbest M T t (i * M)))) (nI i) g = _ ∧ _) ∨ (∃ s', fX11_hidden_l57b (fX11_hidden_l57 K P (nI p) m) K P (nI p) (nI (lim t (hbest M T t (i * M)))) (nI i) g = _ ∧ _)
      unfold fX11_hidden_l57b
      have lo := limle (hbest M T t (i * M))
      rw [(H.core cg).sX, if_pos (nI_lt hi (by omega))]
      by_cases z : 0 < lim t (hbest M T t (i * M))
      · left
        obtain ⟨g2, e2, c2, q2, r2⟩ := hideAt_eq H X cg hi ht q49 qr
        rw [if_pos (show (0 : Int32) < nI (lim t _) from nI_lt (a := 0) z (by omega)), e2, ob, nI_1]
        rw [Nat.succ_mul]
        exact ⟨(_, g2), rfl, rfl, c2, q2, r2⟩
      · right
        rw [if_neg (show ¬ (0 : Int32) < nI (lim t _) from nI_nlt (a := 0) (by omega) (by decide))]
        cases ho : hbest M T t (i * M) with
        | none => rw [ho] at z; exact absurd (show 0 < lim t none from Nat.succ_pos 10) z
        | some b0 =>
          have hz : t b0 = 0 := by
            rw [ho] at z
            have : ¬ 0 < t b0 := z
            omega
          have hiM : i * M ≤ N * M := Nat.mul_le_mul_right M (by omega)
          rw [ho] at qr
          rw [hbest_zero hiM ho hz]
          exact ⟨(_, g), rfl, rfl, cg, q49, qr⟩) (fun m s hI => by
      show fX11_hidden_l57b (fX11_hidden_l57 K P (nI p) m) K P (nI p) s.1 (nI N) s.2 = _
      unfold fX11_hidden_l57b
      rw [(H.core hI.2.1).sX, if_neg (nI_nlt (Nat.le_refl _) (by omega))]) fuel0 0 (11, g3) (by omega) (by have := fuel_big; omega) ⟨by rw [Nat.zero_mul]; rfl, c3, q49, by rw [Nat.zero_mul]; intro b hb; cases hb⟩
  have e' : fX11_hidden_l57 K P (nI p) fuel0 11 0 g3 = K s.1 s.2 := e
  rw [e', ← hK, e1]
  dsimp only
  by_cases p2 : p = 2
  · rw [if_pos (show nI p = 2 by rw [p2]; rfl)]
    refine ⟨_, _, rfl, qc, fun b hb => ?_⟩
    rw [hb, p2]
    rfl
  · rw [if_neg (show ¬ nI p = 2 from ne_lit (j := 2) (by omega) (by decide) p2), nI_1, at_in (show p + 1 < aln 52 by show _ < 4; omega)]
    refine ⟨_, _, rfl, qc, fun b hb => ?_⟩
    obtain ⟨r1, r2⟩ := qr b hb
    have : p = 0 ∨ p = 1 := by omega
    rcases this with rfl | rfl
    · exact r1
    · exact r2
