section ModelCond2
variable {B : Nat → Int32} {n : Nat}
noncomputable def kW : AH → Option (Int32 × AH) := fun (g61 : AH) =>
        letT (fX12_wrongAt (1 : Int32) (g61.1 75 11) g61) (fun b62 =>
        if b62.1 = 0 ∨ b62.1 = 1 then some (b62.1, b62.2) else none)
noncomputable def kCn (r : AH → Option (Int32 × AH)) : AH → Option (Int32 × AH) := fun (g39 : AH) =>
          (fX12_here g39).bind (fun b40 =>
          letT ((fX12_here g39).bind (fun b43 =>
            letT (fun (w45 : Int32) =>
              (fX12_lands w45 g39).bind (fun b47 =>
              (fX12_here b47).bind (fun b49 =>
              if b49 = (38 : Int32) then
                (fX12_jumps (11 : Int32) b47).bind (fun b54 =>
                r b54)
              else
                (fX12_jumps (12 : Int32) b47).bind (fun b52 =>
                r b52)))) (fun J46 =>
            if b43 = (124 : Int32) then
              J46 (1 : Int32)
            else
              J46 (0 : Int32)))) (fun J42 =>
          if b40 = (38 : Int32) then
            J42
          else
            (fX12_here g39).bind (fun b58 =>
            if b58 = (124 : Int32) then
              J42
            else
              kW g39)))
theorem kCn_and {r : AH → Option (Int32 × AH)} {g g1 : AH} (e : fX12_here g = some (nI 38)) (e1 : fX12_lands 0 g = some g1) (e2 : fX12_here g1 = some (nI 38)) : kCn r g = (fX12_jumps (nI 11) g1).bind (fun b54 => r b54) := by
  unfold kCn
  rw [e, ob, letT_eq, ob, letT_eq, if_pos (show nI 38 = 38 from rfl), if_neg (show ¬ nI 38 = 124 by decide)]
  dsimp only
  rw [e1, ob, e2, ob, if_pos (show nI 38 = 38 from rfl)]
  rfl
theorem kCn_or {r : AH → Option (Int32 × AH)} {g g1 : AH} (e : fX12_here g = some (nI 124)) (e1 : fX12_lands 1 g = some g1) (e2 : fX12_here g1 = some (nI 124)) : kCn r g = (fX12_jumps (nI 12) g1).bind (fun b54 => r b54) := by
  unfold kCn
  rw [e, ob, letT_eq, ob, letT_eq, if_neg (show ¬ nI 124 = 38 by decide), ob, if_pos (show nI 124 = 124 from rfl), if_pos (show nI 124 = 124 from rfl)]
  dsimp only
  rw [e1, ob, e2, ob, if_neg (show ¬ nI 124 = 38 by decide)]
  rfl
theorem kCn_no {r : AH → Option (Int32 × AH)} {g : AH} {c : Int32} (e : fX12_here g = some c) (h1 : ¬ c = nI 38) (h2 : ¬ c = nI 124) : kCn r g = kW g := by
  unfold kCn
  rw [e, ob, letT_eq, if_neg (show ¬ c = 38 from h1), ob, if_neg (show ¬ c = 124 from h2)]
noncomputable def AP (e k m : Nat) (h : AH) : Option (Int32 × AH) := (fX12_endsPiece_l0 e h).bind (fun b37 => fX12_readsCondition_l92 (kCn (fX12_readsCondition_l40 kW k)) m b37)
def SimP (B : Nat → Int32) (n : Nat) (P : Pr) (lo : Nat) : Prop := ∀ o p A W h k, lo ≤ o → o ≤ 6 → St5 B n p A W o h → (∃ W' a b, W = W' ++ [(a, b)] ∧ 10 ≤ a) → W.length ≤ p → A.length ≤ p → 1000 < k + p →
    (∀ f, P o p A = .inl f → FtM h f (fX12_readsCondition_l40 kW k h)) ∧
    ∀ A' q, P o p A = .inr (A', q) → ∃ g e k' m', fX12_readsCondition_l40 kW k h = AP e k' m' g ∧ LMf h g ∧ St5 B n q A' W o g ∧ 10 + o < e + 6 ∧ 1000 < k' + q ∧ 1000 < m' + q
theorem cllM {pp : Pr} {lo o : Nat} {V : Wt} (t : Txt B n) (gp : GdP n pp) (SP : SimP B n pp lo) (hlo : lo ≤ o) (ho : o ≤ 6) : ∀ (k p : Nat) (A : Cd) (r a : Option Nat) (e k1 m : Nat) (h : AH), n < k + p → St5 B n p A (V ++ [(13, 0)] ++ rW r ++ aW a) o h → (∀ i, a = some i → i < A.length) → (∀ i, r = some i → i < A.length) → V.length + 1 + (rW r).length + (aW a).length ≤ p → A.length ≤ p → 10 + o < e + 6 → 1000 < k1 + p → 1000 < m + p →
    (∀ f, pCLp B pp o k p A r a = .inl f → FtM h f (AP e k1 m h)) ∧
    ∀ A' q, pCLp B pp o k p A r a = .inr (A', q) → ∃ g k1' m' A2 r' a', AP e k1 m h = fX12_readsCondition_l92 (kCn (fX12_readsCondition_l40 kW k1')) m' g ∧ LMf h g ∧ St5 B n q A2 (V ++ [(13, 0)] ++ rW r' ++ aW a') o g ∧ aim (aim A2 a') r' = A' ∧ (∀ i, a' = some i → i < A2.length) ∧ (∀ i, r' = some i → i < A2.length) ∧ ¬ B q = nI 38 ∧ ¬ B q = nI 124 ∧ 1000 < m' + q ∧ 1000 < k1' + q ∧ V.length + 1 ≤ q ∧ A2.length ≤ q := by
  have n200 := t.1
  intro k
  induction k with
  | zero =>
    intro p A r a e k1 m h h1 s
    have := s.2.2.1
    omega
  | succ k ih =>
    intro p A r a e k1 m h h1 s ha hr hV hA he hk1 hm
    have pn := s.2.2.1
    have lr := rW_len r
    have la := aW_len a
    have here := here_eq t s.1 s.2.1 pn
    -- no piece ends here
    have ap : AP e k1 m h = fX12_readsCondition_l92 (kCn (fX12_readsCondition_l40 kW k1)) m h := by
      obtain ⟨e, rfl⟩ : ∃ e', e = e' + 1 := ⟨e - 1, by omega⟩
      unfold AP
      have st : fX12_endsPiece_l0 (e + 1) h = some h := by
        cases a with
        | some i => exact ep_stop (W := V ++ [(13, 0)] ++ rW r) (a := 11) (b := i) s (by rw [List.length_append, lenw]; omega) (by decide)
        | none =>
          rw [show V ++ [(13, 0)] ++ rW r ++ aW none = V ++ [(13, 0)] ++ rW r from List.append_nil _] at s
          cases r with
          | some i => exact ep_stop (W := V ++ [(13, 0)]) (a := 12) (b := i) s (by rw [lenw]; omega) (by decide)
          | none =>
            rw [show V ++ [(13, 0)] ++ rW none = V ++ [(13, 0)] from List.append_nil _] at s
            exact ep_stop s (by omega) (by decide)
      rw [st, ob]
    have apk : ∀ m', m = m' + 1 → ¬ B p = nI 41 → AP e k1 m h = kCn (fX12_readsCondition_l40 kW k1) h := fun m' em c => by
      rw [ap, em]
      have un : fX12_readsCondition_l92 (kCn (fX12_readsCondition_l40 kW k1)) (m' + 1) h = fX12_readsCondition_l92b (fX12_readsCondition_l92 (kCn (fX12_readsCondition_l40 kW k1)) m') (kCn (fX12_readsCondition_l40 kW k1)) h := rfl
      rw [un]
      unfold fX12_readsCondition_l92b
      rw [here, ob, if_neg (show ¬ B p = 41 from c)]
    -- the next piece
    have next : ∀ (r2 a2 : Option Nat) (A1 : Cd) (g2 : AH), LMf h g2 → AP e k1 m h = fX12_readsCondition_l40 kW k1 g2 → St5 B n (p + 1) A1 (V ++ [(13, 0)] ++ rW r2 ++ aW a2) o g2 → (∃ W' a b, V ++ [(13, 0)] ++ rW r2 ++ aW a2 = W' ++ [(a, b)] ∧ 10 ≤ a) → (∀ i, a2 = some i → i < A1.length) → (∀ i, r2 = some i → i < A1.length) → V.length + 1 + (rW r2).length + (aW a2).length ≤ p + 1 → A1.length ≤ p + 1 →
        (∀ f, (match pp o (p + 1) A1 with | Sum.inl f => (Sum.inl f : Rs (Cd × Nat)) | Sum.inr (A', q) => pCLp B pp o k q A' r2 a2) = Sum.inl f → FtM h f (AP e k1 m h)) ∧
        ∀ A' q, (match pp o (p + 1) A1 with | Sum.inl f => (Sum.inl f : Rs (Cd × Nat)) | Sum.inr (A', q) => pCLp B pp o k q A' r2 a2) = Sum.inr (A', q) → ∃ g k1' m' A2 r' a', AP e k1 m h = fX12_readsCondition_l92 (kCn (fX12_readsCondition_l40 kW k1')) m' g ∧ LMf h g ∧ St5 B n q A2 (V ++ [(13, 0)] ++ rW r' ++ aW a') o g ∧ aim (aim A2 a') r' = A' ∧ (∀ i, a' = some i → i < A2.length) ∧ (∀ i, r' = some i → i < A2.length) ∧ ¬ B q = nI 38 ∧ ¬ B q = nI 124 ∧ 1000 < m' + q ∧ 1000 < k1' + q ∧ V.length + 1 ≤ q ∧ A2.length ≤ q := fun r2 a2 A1 g2 lf e2 s2 top ha2 hr2 hV2 hA2 => by
      have lW : (V ++ [(13, 0)] ++ rW r2 ++ aW a2).length = V.length + 1 + (rW r2).length + (aW a2).length := by rw [List.length_append, List.length_append, lenw]
      obtain ⟨j1, j2⟩ := SP o (p + 1) A1 _ g2 k1 hlo ho s2 top (by omega) (by omega) (by omega)
      rw [e2]
      cases er : pp o (p + 1) A1 with
      | inl f0 =>
        refine ⟨fun f z => ?_, fun A' q z => (by cases z)⟩
        rw [← Sum.inl.inj z]
        exact (j1 f0 er).tr lf
      | inr Aq =>
        obtain ⟨A', q⟩ := Aq
        obtain ⟨g1, g2', g3, g4, g5⟩ := gp _ _ _ _ _ er
        obtain ⟨g4', e', k', m', x1, x2, x3, x4, x5, x6⟩ := j2 A' q er
        obtain ⟨i1, i2⟩ := ih q A' r2 a2 e' k' m' g4' (by omega) x3 (fun i z => by have := ha2 i z; omega) (fun i z => by have := hr2 i z; omega) (by omega) (by omega) x4 x5 x6
        dsimp only
        rw [x1]
        refine ⟨fun f z => ((i1 f z).tr x2).tr lf, fun A'' q' z => ?_⟩
        obtain ⟨g, k2, m2, A2, r', a', y1, y2, y3, y4, y5, y6, y7, y8, y9, y10, y11, y12⟩ := i2 A'' q' z
        exact ⟨g, k2, m2, A2, r', a', y1, (lf.tr x2).tr y2, y3, y4, y5, y6, y7, y8, y9, y10, y11, y12⟩
    unfold pCLp
    obtain ⟨m', em⟩ : ∃ m', m = m' + 1 := ⟨m - 1, by omega⟩
    by_cases c1 : B p = nI 38
    · rw [if_pos c1]
      have hp := t.lit (by decide) c1
      obtain ⟨g1, e1, s1, f1⟩ := lands0 s (by omega) (by omega) ha
      rw [c1] at here
      have h2 := here_eq t s1.1 s1.2.1 pn
      rw [c1] at h2
      have ek := apk m' em (by rw [c1]; decide)
      rw [kCn_and here e1 h2] at ek
      obtain ⟨g2, e2, s2, f2⟩ := jumps_eq (j := 11) (op := 3) s1 hp (by rw [List.length_append, lenw]; omega) (by rw [aim_len]; omega) (by decide) (by decide) rfl
      rw [e2, ob] at ek
      have l1 : (aim A a ++ [(3, 0)]).length = A.length + 1 := by rw [len1, aim_len]
      exact next r (some (aim A a).length) (aim A a ++ [(3, 0)]) g2 (f1.tr f2) ek s2 ⟨_, 11, _, rfl, by decide⟩ (fun i z => by rw [← Option.some.inj z, l1, aim_len]; omega) (fun i z => by have := hr i z; omega) (by have : (aW (some (aim A a).length)).length = 1 := rfl; omega) (by omega)
    · rw [if_neg c1]
      by_cases c2 : B p = nI 124
      · rw [if_pos c2]
        have hp := t.lit (by decide) c2
        obtain ⟨g1, e1, s1, f1⟩ := lands1 s (by omega) (by omega) ha hr
        rw [c2] at here
        have h2 := here_eq t s1.1 s1.2.1 pn
        rw [c2] at h2
        have ek := apk m' em (by rw [c2]; decide)
        rw [kCn_or here e1 h2] at ek
        obtain ⟨g2, e2, s2, f2⟩ := jumps_eq (j := 12) (op := 4) s1 hp (by rw [lenw]; omega) (by rw [aim_len, aim_len]; omega) (by decide) (by decide) rfl
        rw [e2, ob] at ek
        have l1 : (aim (aim A a) r ++ [(4, 0)]).length = A.length + 1 := by rw [len1, aim_len, aim_len]
        have s2' : St5 B n (p + 1) (aim (aim A a) r ++ [(4, 0)]) (V ++ [(13, 0)] ++ rW (some (aim (aim A a) r).length) ++ aW none) o g2 := by rw [show V ++ [(13, 0)] ++ rW (some (aim (aim A a) r).length) ++ aW none = V ++ [(13, 0)] ++ [(12, (aim (aim A a) r).length)] from List.append_nil _]; exact s2
        exact next (some (aim (aim A a) r).length) none (aim (aim A a) r ++ [(4, 0)]) g2 (f1.tr f2) ek s2' ⟨V ++ [(13, 0)], 12, _, List.append_nil _, by decide⟩ (fun i z => by cases z) (fun i z => by rw [← Option.some.inj z, l1, aim_len, aim_len]; omega) (by have : (rW (some (aim (aim A a) r).length)).length = 1 := rfl; have : (aW none).length = 0 := rfl; omega) (by omega)
      · rw [if_neg c2]
        refine ⟨fun f z => (by cases z), fun A' q z => ?_⟩
        injection Sum.inr.inj z with z1 z2
        subst z1 z2
        exact ⟨h, k1, m, A, r, a, ap, .rf, s, rfl, ha, hr, c1, c2, hm, hk1, by omega, hA⟩
/-- behind '(': a choice, and ')' -/
theorem closeM {q o k m : Nat} {A : Cd} {V : Wt} {r a : Option Nat} {h : AH} (t : Txt B n) (s : St5 B n q A (V ++ [(13, 0)] ++ rW r ++ aW a) (o + 1) h) (ho : o ≤ 6) (ha : ∀ i, a = some i → i < A.length) (hr : ∀ i, r = some i → i < A.length) (c1 : ¬ B q = nI 38) (c2 : ¬ B q = nI 124) (hm : 1000 < m + q) (hV : V.length + 1 ≤ q) (hA : A.length ≤ q) :
    (B q = nI 41 → ∃ g m', fX12_readsCondition_l92 (kCn (fX12_readsCondition_l40 kW k)) m h = (if V.length = 0 then some ((1 : Int32), g) else AP (fuel0 + 1) k m' g) ∧ 1000 < m' + q + 1 ∧ LMf h g ∧ St5 B n (q + 1) (aim (aim A a) r) V o g) ∧ (¬ B q = nI 41 → FtM h (1000 + q) (fX12_readsCondition_l92 (kCn (fX12_readsCondition_l40 kW k)) m h)) := by
  have n200 := t.1
  have pn := s.2.2.1
  have here := here_eq t s.1 s.2.1 pn
  obtain ⟨m, rfl⟩ : ∃ m', m = m' + 1 := ⟨m - 1, by omega⟩
  have un : fX12_readsCondition_l92 (kCn (fX12_readsCondition_l40 kW k)) (m + 1) h = fX12_readsCondition_l92b (fX12_readsCondition_l92 (kCn (fX12_readsCondition_l40 kW k)) m) (kCn (fX12_readsCondition_l40 kW k)) h := rfl
  rw [un]
  unfold fX12_readsCondition_l92b
  rw [here, ob]
  refine ⟨fun c => ?_, fun c => ?_⟩
  · rw [if_pos (show B q = 41 from c)]
    have qn := t.lit (by decide) c
    obtain ⟨g1, e1, s1, f1⟩ := lands1 s (by omega) (by omega) ha hr
    rw [e1, ob, letT_eq, letT_eq, letT_eq]
    obtain ⟨s2, f2⟩ := s1.pop
    generalize sI g1 75 26 (g1.1 75 26 - 1) = g2 at s2 f2
    have s3 := s2.opn (o' := o)
    have f3 : LMf g2 (sI g2 75 24 (nI o)) := LMf.at (by decide)
    rw [s2.2.2.2.2.2, nI_sub1 (by omega), Nat.add_sub_cancel]
    generalize sI g2 75 24 (nI o) = g3 at s3 f3
    rw [s3.2.1, nI_1]
    have s4 := s3.place (q := q + 1) (by omega)
    have f4 : LMf g3 (sI g3 75 11 (nI (q + 1))) := LMf.at (by decide)
    generalize sI g3 75 11 (nI (q + 1)) = g4 at s4 f4
    refine ⟨g4, m, ?_, by omega, ((f1.tr f2).tr f3).tr f4, s4⟩
    rw [s4.2.2.2.2.1.1]
    by_cases v0 : V.length = 0
    · rw [if_pos v0, if_pos (show nI V.length = 0 by rw [v0]; rfl)]
    · rw [if_neg v0, if_neg (show ¬ nI V.length = 0 from ne_lit (j := 0) (by omega) (by decide) v0)]
      rfl
  · rw [if_neg (show ¬ B q = 41 from c), kCn_no here c1 c2]
    exact ft_at (a := 1) s.2.1
theorem pieceM (t : Txt B n) : ∀ d, SimP B n (pPieceD B d) (7 - d) := by
  have n200 := t.1
  intro d
  induction d with
  | zero =>
    intro o p A W h k hlo ho
    omega
  | succ d ih =>
    intro o p A W h k hlo ho s top hW hA hk
    have pn := s.2.2.1
    obtain ⟨k, rfl⟩ : ∃ k', k = k' + 1 := ⟨k - 1, by omega⟩
    have here := here_eq t s.1 s.2.1 pn
    have ul : fX12_readsCondition_l40 kW (k + 1) h = fX12_readsCondition_l40b (fX12_readsCondition_l40 kW k) kW h := rfl
    have gp : GdP n (pPieceD B d) := pPieceD_gd t d
    have ep : pPieceD B (d + 1) o p A = pPiece B (pPieceD B d) (pChoice B (pPieceD B d)) o p A := rfl
    rw [ul, ep]
    unfold fX12_readsCondition_l40b
    rw [here, ob, letT_eq, ob]
    by_cases c1 : B p = nI 33
    · have e33 : B p = 33 := c1
      rw [if_pos e33, if_pos e33]
      have hp := t.lit (by decide) c1
      obtain ⟨y1, y2⟩ := opens_eq (a := 10) s hp n200 hW (by decide) ho
      unfold pPiece
      rw [if_pos c1]
      by_cases o6 : o < 6
      · obtain ⟨g, e, l, s1⟩ := y1 o6
        have e' : fX12_opens (10 : Int32) h = some (1, g) := e
        rw [e', ob, if_neg d10', if_pos o6]
        have lW : (W ++ [(10, 0)]).length = W.length + 1 := lenw
        obtain ⟨i1, i2⟩ := ih (o + 1) (p + 1) A (W ++ [(10, 0)]) g k (by omega) (by omega) s1 ⟨W, 10, 0, rfl, by decide⟩ (by omega) (by omega) (by omega)
        cases er : pPieceD B d (o + 1) (p + 1) A with
        | inl f0 =>
          refine ⟨fun f z => ?_, fun A' q z => (by cases z)⟩
          rw [← Sum.inl.inj z]
          exact (i1 f0 er).tr l
        | inr Aq =>
          obtain ⟨A1, q1⟩ := Aq
          obtain ⟨g1, g2', g3, g4, g5⟩ := gp _ _ _ _ _ er
          obtain ⟨h2, e2, k2, m2, x1, x2, x3, x4, x5, x6⟩ := i2 A1 q1 er
          obtain ⟨e2, rfl⟩ : ∃ e', e2 = e' + 1 := ⟨e2 - 1, by omega⟩
          obtain ⟨h3, e3, s3, f3⟩ := ep_go (k := e2) x3 (by omega) (by omega) (by omega)
          refine ⟨fun f z => (by cases z), fun A' q z => ?_⟩
          injection Sum.inr.inj z with z1 z2
          subst z1 z2
          refine ⟨h3, e2, k2, m2, ?_, (l.tr x2).tr f3, s3, by omega, x5, x6⟩
          rw [x1]
          unfold AP
          rw [e3]
      · obtain ⟨g, e, l, e13⟩ := y2 o6
        have e' : fX12_opens (10 : Int32) h = some (0, g) := e
        rw [e', ob, if_pos rfl, if_neg o6]
        refine ⟨fun f z => ?_, fun A' q z => (by cases z)⟩
        rw [← Sum.inl.inj z]
        exact ⟨g, rfl, l, e13⟩
    · have n33 : ¬ B p = 33 := c1
      rw [if_neg n33, if_neg n33]
      by_cases c2 : B p = nI 40
      · have e40 : B p = 40 := c2
        rw [ob, if_pos e40]
        have hp := t.lit (by decide) c2
        obtain ⟨y1, y2⟩ := opens_eq (a := 13) s hp n200 hW (by decide) ho
        unfold pPiece
        rw [if_neg c1, if_pos c2]
        by_cases o6 : o < 6
        · obtain ⟨g, e, l, s1⟩ := y1 o6
          have e' : fX12_opens (13 : Int32) h = some (1, g) := e
          rw [e', ob, if_neg d10', if_pos o6]
          have lW : (W ++ [(13, 0)]).length = W.length + 1 := lenw
          obtain ⟨i1, i2⟩ := ih (o + 1) (p + 1) A (W ++ [(13, 0)]) g k (by omega) (by omega) s1 ⟨W, 13, 0, rfl, by decide⟩ (by omega) (by omega) (by omega)
          have ec : pChoice B (pPieceD B d) (o + 1) (p + 1) A = (match pPieceD B d (o + 1) (p + 1) A with | Sum.inl f => (Sum.inl f : Rs (Cd × Nat)) | Sum.inr (A', q) => pCLp B (pPieceD B d) (o + 1) 201 q A' none none) := rfl
          rw [ec]
          cases er : pPieceD B d (o + 1) (p + 1) A with
          | inl f0 =>
            refine ⟨fun f z => ?_, fun A' q z => (by cases z)⟩
            rw [← Sum.inl.inj z]
            exact (i1 f0 er).tr l
          | inr Aq =>
            obtain ⟨A1, q1⟩ := Aq
            obtain ⟨g1, g2', g3, g4, g5⟩ := gp _ _ _ _ _ er
            obtain ⟨h2, e2, k2, m2, x1, x2, x3, x4, x5, x6⟩ := i2 A1 q1 er
            rw [x1]
            have s2' : St5 B n q1 A1 (W ++ [(13, 0)] ++ rW none ++ aW none) (o + 1) h2 := by rw [show W ++ [(13, 0)] ++ rW none ++ aW none = W ++ [(13, 0)] from by rw [show rW none = [] from rfl, show aW none = [] from rfl, List.append_nil, List.append_nil]]; exact x3
            have l0 : (rW none).length = 0 := rfl
            have l0' : (aW none).length = 0 := rfl
            obtain ⟨z1, z2⟩ := cllM (o := o + 1) (V := W) t gp ih (by omega) (by omega) 201 q1 A1 none none e2 k2 m2 h2 (by omega) s2' (fun i q => by cases q) (fun i q => by cases q) (by omega) (by omega) x4 x5 x6
            dsimp only
            cases er2 : pCLp B (pPieceD B d) (o + 1) 201 q1 A1 none none with
            | inl f0 =>
              refine ⟨fun f z => ?_, fun A' q z => (by cases z)⟩
              rw [← Sum.inl.inj z]
              exact ((z1 f0 er2).tr x2).tr l
            | inr Aq =>
              obtain ⟨A2, q2⟩ := Aq
              obtain ⟨h3, k3, m3, A3, r', a', w1, w2, w3, w4, w5, w6, w7, w8, w9, w10, w11, w12⟩ := z2 A2 q2 er2
              rw [w1]
              obtain ⟨v1, v2⟩ := closeM (k := k3) t w3 (by omega) w5 w6 w7 w8 w9 w11 w12
              by_cases c3 : B q2 = nI 41
              · obtain ⟨h4, m4, u1, u2, u3, u4⟩ := v1 c3
                have wn : ¬ W.length = 0 := by obtain ⟨W', a, b, rfl, -⟩ := top; rw [lenw]; omega
                rw [if_neg wn] at u1
                dsimp only
                rw [if_pos c3]
                refine ⟨fun f z => (by cases z), fun A' q z => ?_⟩
                injection Sum.inr.inj z with z1 z2
                subst z1 z2
                rw [w4] at u4
                exact ⟨h4, fuel0 + 1, k3, m4, u1, ((l.tr x2).tr w2).tr u3, u4, by have := fuel_big; omega, by omega, by omega⟩
              · dsimp only
                rw [if_neg c3]
                refine ⟨fun f z => ?_, fun A' q z => (by cases z)⟩
                rw [← Sum.inl.inj z]
                exact (v2 c3).tr ((l.tr x2).tr w2)
        · obtain ⟨g, e, l, e13⟩ := y2 o6
          have e' : fX12_opens (13 : Int32) h = some (0, g) := e
          rw [e', ob, if_pos rfl, if_neg o6]
          refine ⟨fun f z => ?_, fun A' q z => (by cases z)⟩
          rw [← Sum.inl.inj z]
          exact ⟨g, rfl, l, e13⟩
      · have n40 : ¬ B p = 40 := c2
        rw [ob, if_neg n40]
        have epp : pPiece B (pPieceD B d) (pChoice B (pPieceD B d)) o p A = pCmp B o p A := by
          unfold pPiece
          rw [if_neg c1, if_neg c2]
          rfl
        rw [epp]
        have topk : topOk W := Or.inr top
        obtain ⟨j1, j2⟩ := compared_eq t s ho topk hW hA
        refine ⟨fun f z => ?_, fun A' q z => ?_⟩
        · obtain ⟨g, a1, a2, a3⟩ := j1 f z
          rw [a1, ob, if_pos rfl]
          exact ⟨g, rfl, a2, a3⟩
        · obtain ⟨g, a1, a2, a3, a4⟩ := j2 A' q z
          have gz := pPieceD_gd t (d + 1) o p A A' q ((ep.trans epp).trans z)
          refine ⟨g, fuel0 + 1, k, fuel0, ?_, a2, a3, by have := fuel_big; omega, by have := gz.1; omega, by have := fuel_big; omega⟩
          rw [a1]
          unfold AP
          rw [← ep_l0]
          cases fX12_endsPiece g with
          | none => rfl
          | some x => rfl
end ModelCond2
