section ModelSum2
variable {B : Nat → Int32} {n : Nat}
/-- an open bracket lies between -/
theorem has1 {p o b i : Nat} {A : Cd} {W : Wt} {h : AH} (s : St5 B n p A W o h) (hW : W.length < 220) (hb : b ≤ i) (hi : i < W.length) (e : (W.getD i (0, 0)).1 = 14) : fX12_hasOpenSum (nI b) h = some 1 := by
  rw [hasOpen14 s hW (by omega)]
  cases ef : fst (o14 W) b (W.length - b) with
  | some j => rfl
  | none =>
    have := fst_none ef i hb (by omega)
    unfold o14 at this
    rw [e] at this
    cases this
theorem has0 {p o : Nat} {A : Cd} {W : Wt} {S Mu : Option Nat} {h : AH} (s : St5 B n p A (W ++ sW S ++ sW Mu) o h) (hW : W.length + 2 < 220) (hS : ∀ i, S = some i → i ≤ 1) (hM : ∀ i, Mu = some i → 2 ≤ i ∧ i ≤ 4) : fX12_hasOpenSum (nI W.length) h = some 0 := by
  have lS := sW_len S
  have lM := sW_len Mu
  have lW : (W ++ sW S ++ sW Mu).length = W.length + (sW S).length + (sW Mu).length := by rw [List.length_append, List.length_append]
  rw [hasOpen14 s (by omega) (by omega)]
  cases ef : fst (o14 (W ++ sW S ++ sW Mu)) W.length ((W ++ sW S ++ sW Mu).length - W.length) with
  | none => rfl
  | some j =>
    exfalso
    obtain ⟨j1, j2, j3, -⟩ := fst_some ef
    unfold o14 at j3
    have j4 := of_decide_eq_true j3
    have : ∀ x : Nat × Nat, x ∈ sW S ++ sW Mu → x.1 ≠ 14 := fun x hx => by
      rcases List.mem_append.mp hx with q | q
      · cases S with
        | none => cases q
        | some i =>
          have := hS i rfl
          have e := List.mem_singleton.mp q
          rw [e]
          show i + 2 ≠ 14
          omega
      · cases Mu with
        | none => cases q
        | some i =>
          have := hM i rfl
          have e := List.mem_singleton.mp q
          rw [e]
          show i + 2 ≠ 14
          omega
    rw [List.append_assoc, List.getD_eq_getElem?_getD, List.getElem?_append_right j1] at j4
    cases eg : (sW S ++ sW Mu)[j - W.length]? with
    | none => rw [eg] at j4; cases j4
    | some x =>
      rw [eg] at j4
      exact this x (List.mem_of_getElem? eg) j4
theorem getB {V : Wt} {x : Nat × Nat} {Y Z : Wt} : ((V ++ [x] ++ Y ++ Z).getD V.length (0, 0)) = x := by
  rw [List.append_assoc, List.append_assoc, List.getD_eq_getElem?_getD, List.getElem?_append_right (Nat.le_refl _), Nat.sub_self]
  rfl
/-- the loop's head behind a sum -/
theorem l14_end {q o m : Nat} {b : Int32} {r : Int32} {A : Cd} {W : Wt} {h : AH} (t : Txt B n) (s : St5 B n q A W o h) (em : mulI (B q) = none) (ea : addI (B q) = none) (hr : fX12_hasOpenSum b h = some r) : fX12_readsSum_l14 (kS b) b (m + 1) h = if B q = 93 then (if r = 0 then kS b h else
        (fX12_closesSums (1 : Int32) h).bind (fun b14 =>
        letT (sI b14 75 26 ((b14.1 75 26) - (1 : Int32))) (fun g16 =>
        letT (sI g16 75 24 ((g16.1 75 24) - (1 : Int32))) (fun g17 =>
        letT (sI g17 75 11 ((g17.1 75 11) + (1 : Int32))) (fun g18 =>
        fX12_readsSum_l14 (kS b) b m g18))))) else kS b h := by
  have un : fX12_readsSum_l14 (kS b) b (m + 1) h = fX12_readsSum_l14b (fX12_readsSum_l14 (kS b) b m) (kS b) b h := rfl
  rw [un]
  unfold fX12_readsSum_l14b
  rw [here_eq t s.1 s.2.1 s.2.2.1, ob, letT_eq, (sumSign_eq (B q) h).2.2 em ea, if_pos rfl, ob]
  by_cases c : B q = 93
  · rw [if_pos c, if_pos c, hr, ob]
  · rw [if_neg c, if_neg c]
theorem facM (t : Txt B n) : ∀ d, SimM B n (pFac B (pSumD B d)) (6 - d) := by
  have n200 := t.1
  intro d
  induction d using Nat.strongRecOn with
  | ind d ih =>
    intro o p A W h b m k hlo ho s hW hA hb hk hm
    have pn := s.2.2.1
    obtain ⟨k, rfl⟩ : ∃ k', k = k' + 1 := ⟨k - 1, by omega⟩
    have ul : fX12_readsFactor_l0 kA (k + 1) h = fX12_readsFactor_l0b (fX12_readsFactor_l0 kA k) kA h := rfl
    rw [ul]
    unfold fX12_readsFactor_l0b
    rw [here_eq t s.1 s.2.1 pn, ob]
    by_cases c : B p = nI 91
    · rw [if_pos (show B p = 91 from c)]
      have hp := t.lit (by decide) c
      obtain ⟨y1, y2⟩ := opens_eq (a := 14) s hp n200 hW (by decide) ho
      by_cases o6 : o < 6
      · obtain ⟨g, e, l, s1⟩ := y1 o6
        have e' : fX12_opens (14 : Int32) h = some (1, g) := e
        rw [e', ob, if_neg d10']
        obtain ⟨d, rfl⟩ : ∃ d', d = d' + 1 := ⟨d - 1, by omega⟩
        have lW : (W ++ [(14, 0)]).length = W.length + 1 := lenw
        obtain ⟨i1, i2⟩ := ih d (by omega) (o + 1) (p + 1) A (W ++ [(14, 0)]) g b m k (by omega) (by omega) s1 (by omega) (by omega) (by omega) (by omega) (by omega)
        have ep : pFac B (pSumD B (d + 1)) o p A = (match (match pFac B (pSumD B d) (o + 1) (p + 1) A with | Sum.inl f => (Sum.inl f : Rs (Cd × Nat)) | Sum.inr (A', q) => pELp B (pFac B (pSumD B d)) (o + 1) 201 q A' none) with | Sum.inl f => (Sum.inl f : Rs (Cd × Nat)) | Sum.inr (A', q) => if B q = nI 93 then Sum.inr (A', q + 1) else Sum.inl (1000 + q)) := by
          unfold pFac
          rw [if_pos c, if_pos o6]
          rfl
        rw [ep]
        have gf : GdP n (pFac B (pSumD B d)) := pFac_gd t (pSumD_gd t d)
        cases er : pFac B (pSumD B d) (o + 1) (p + 1) A with
        | inl f0 =>
          refine ⟨fun f z => ?_, fun A' q z => (by cases z)⟩
          rw [← Sum.inl.inj z]
          exact (i1 f0 er).tr l
        | inr Aq =>
          obtain ⟨A1, q1⟩ := Aq
          obtain ⟨g1, g2', g3, g4, g5⟩ := gf _ _ _ _ _ er
          obtain ⟨h2, m2, e2, l2, s2, hm2⟩ := i2 A1 q1 er
          rw [e2]
          have s2' : St5 B n q1 A1 (W ++ [(14, 0)] ++ sW none ++ sW none) (o + 1) h2 := by rw [show W ++ [(14, 0)] ++ sW none ++ sW none = W ++ [(14, 0)] from by rw [show sW none = [] from rfl, List.append_nil, List.append_nil]]; exact s2
          have l0 : (sW none).length = 0 := rfl
          have l0' : (sOp none).length = 0 := rfl
          obtain ⟨z1, z2⟩ := elpM (o := o + 1) (b := b) (V := W ++ [(14, 0)]) t gf (ih d (by omega)) (by omega) (by omega) (Or.inr ⟨W, 14, 0, rfl, by decide⟩) (by omega) 201 q1 A1 none none m2 h2 (by omega) s2' (fun i q => by cases q) (fun i q => by cases q) (by omega) (by omega) hm2
          rw [show A1 ++ sOp none = A1 from List.append_nil _] at z1 z2
          dsimp only
          cases er2 : pELp B (pFac B (pSumD B d)) (o + 1) 201 q1 A1 none with
          | inl f0 =>
            refine ⟨fun f z => ?_, fun A' q z => (by cases z)⟩
            rw [← Sum.inl.inj z]
            exact ((z1 f0 er2).tr l2).tr l
          | inr Aq =>
            obtain ⟨A2, q2⟩ := Aq
            obtain ⟨h3, m3, A3, Mu, S, w1, w2, w3, w4, w5, w6, w7, w8, w9, w10, w11, w12⟩ := z2 A2 q2 er2
            have q2n := w3.2.2.1
            obtain ⟨m3, rfl⟩ : ∃ m', m3 = m' + 1 := ⟨m3 - 1, by omega⟩
            have lWW : (W ++ [(14, 0)] ++ sW S ++ sW Mu).length = (W ++ [(14, 0)]).length + (sW S).length + (sW Mu).length := by rw [List.length_append, List.length_append]
            have lS := sW_len S
            have lM := sW_len Mu
            have hr := has1 (b := b) (i := W.length) w3 (by omega) hb (by omega) (by rw [getB])
            rw [w1, l14_end t w3 w7 w8 hr]
            have lA2 : A3.length ≤ A2.length := by rw [← w4, List.length_append, List.length_append]; omega
            by_cases c2 : B q2 = nI 93
            · rw [if_pos (show B q2 = 93 from c2), if_neg d10']
              have q2' := t.lit (by decide) c2
              obtain ⟨h4, e4, s4, l4⟩ := cs_all w3 (by omega) (by omega) (Or.inr ⟨W, 14, 0, rfl, by decide⟩) w5 w6
              rw [e4, ob, letT_eq, letT_eq, letT_eq]
              obtain ⟨s5, l5⟩ := s4.pop
              generalize sI h4 75 26 (h4.1 75 26 - 1) = h5 at s5 l5
              have s6 := s5.opn (o' := o)
              have l6 : LMf h5 (sI h5 75 24 (nI o)) := LMf.at (by decide)
              rw [s5.2.2.2.2.2, nI_sub1 (by omega), Nat.add_sub_cancel]
              generalize sI h5 75 24 (nI o) = h6 at s6 l6
              rw [s6.2.1, nI_1]
              refine ⟨fun f z => ?_, fun A' q z => ?_⟩
              · dsimp only at z
                rw [if_pos c2] at z
                cases z
              · dsimp only at z
                rw [if_pos c2] at z
                injection Sum.inr.inj z with x1 x2
                subst x1 x2
                rw [w4] at s6
                exact ⟨_, m3, rfl, ((((((l.tr l2).tr w2).tr l4).tr l5).tr l6).tr (LMf.at (by decide))), s6.place (q := q2 + 1) (by omega), by omega⟩
            · rw [if_neg (show ¬ B q2 = 93 from c2)]
              refine ⟨fun f z => ?_, fun A' q z => ?_⟩
              · dsimp only at z
                rw [if_neg c2] at z
                rw [← Sum.inl.inj z]
                unfold kS
                rw [hr, ob, if_neg d10']
                exact (ft_at (a := 1) w3.2.1).tr ((l.tr l2).tr w2)
              · dsimp only at z
                rw [if_neg c2] at z
                cases z
      · obtain ⟨g, e, l, e13⟩ := y2 o6
        have e' : fX12_opens (14 : Int32) h = some (0, g) := e
        rw [e', ob, if_pos rfl, ob, if_pos rfl]
        unfold pFac
        rw [if_pos c, if_neg o6]
        refine ⟨fun f z => ?_, fun A' q z => (by cases z)⟩
        rw [← Sum.inl.inj z]
        exact ⟨g, rfl, l, e13⟩
    · rw [if_neg (show ¬ B p = 91 from c)]
      have ep : pFac B (pSumD B d) o p A = pAt B p A := by
        unfold pFac
        rw [if_neg c]
        rfl
      rw [ep]
      obtain ⟨j1, j2⟩ := atom_eq t s (by omega)
      refine ⟨fun f z => ?_, fun A' q z => ?_⟩
      · obtain ⟨g, a1, a2, a3⟩ := j1 f z
        rw [a1, ob, if_pos rfl]
        exact ⟨g, rfl, a2, a3⟩
      · obtain ⟨g, a1, a2, a3⟩ := j2 A' q z
        have gz := pFac_gd t (pSumD_gd t d) o p A A' q (ep.trans z)
        rw [a1, ob, if_neg d10']
        exact ⟨g, m, rfl, a2, a3, by have := gz.1; omega⟩
/-- the model reads an E -/
theorem readsSum_eq {o p : Nat} {A : Cd} {W : Wt} {h : AH} (t : Txt B n) (s : St5 B n p A W o h) (ho : o ≤ 6) (tW : topOk W) (hW : W.length ≤ p) (hA : A.length ≤ p) :
    (∀ f, pSumD B 8 o p A = .inl f → FtM h f (fX12_readsSum h)) ∧ ∀ A' q, pSumD B 8 o p A = .inr (A', q) → ∃ g, fX12_readsSum h = some (1, g) ∧ LMf h g ∧ St5 B n q A' W o g := by
  have n200 := t.1
  have pn := s.2.2.1
  have e26 : h.1 75 26 = nI W.length := s.2.2.2.2.1.1
  have er0 : fX12_readsSum h = (fX12_readsFactor_l0 kA (fuel0 + 1) h).bind (fun b27 => if b27.1 = 0 then some ((0 : Int32), b27.2) else fX12_readsSum_l14 (kS (nI W.length)) (nI W.length) fuel0 b27.2) := by
    unfold fX12_readsSum
    rw [factor_l0, e26]
    rfl
  rw [er0]
  have SS := facM t 7
  have gf : GdP n (pFac B (pSumD B 7)) := pFac_gd t (pSumD_gd t 7)
  obtain ⟨i1, i2⟩ := SS o p A W h W.length fuel0 (fuel0 + 1) (by omega) ho s hW hA (Nat.le_refl _) (by have := fuel_big; omega) (by have := fuel_big; omega)
  have ep : pSumD B 8 o p A = (match pFac B (pSumD B 7) o p A with | Sum.inl f => (Sum.inl f : Rs (Cd × Nat)) | Sum.inr (A', q) => pELp B (pFac B (pSumD B 7)) o 201 q A' none) := rfl
  rw [ep]
  cases er : pFac B (pSumD B 7) o p A with
  | inl f0 =>
    refine ⟨fun f z => ?_, fun A' q z => (by cases z)⟩
    rw [← Sum.inl.inj z]
    exact i1 f0 er
  | inr Aq =>
    obtain ⟨A1, q1⟩ := Aq
    obtain ⟨g1, g2', g3, g4, g5⟩ := gf _ _ _ _ _ er
    obtain ⟨h2, m2, e2, l2, s2, hm2⟩ := i2 A1 q1 er
    rw [e2]
    have s2' : St5 B n q1 A1 (W ++ sW none ++ sW none) o h2 := by rw [show W ++ sW none ++ sW none = W from by rw [show sW none = [] from rfl, List.append_nil, List.append_nil]]; exact s2
    have l0 : (sW none).length = 0 := rfl
    have l0' : (sOp none).length = 0 := rfl
    obtain ⟨z1, z2⟩ := elpM (o := o) (b := W.length) (V := W) t gf SS (by omega) (by omega) tW (Nat.le_refl _) 201 q1 A1 none none m2 h2 (by omega) s2' (fun i q => by cases q) (fun i q => by cases q) (by omega) (by omega) hm2
    rw [show A1 ++ sOp none = A1 from List.append_nil _] at z1 z2
    dsimp only
    refine ⟨fun f z => (z1 f z).tr l2, fun A' q z => ?_⟩
    obtain ⟨h3, m3, A3, Mu, S, w1, w2, w3, w4, w5, w6, w7, w8, w9, w10, w11, w12⟩ := z2 A' q z
    have q2n := w3.2.2.1
    obtain ⟨m3, rfl⟩ : ∃ m', m3 = m' + 1 := ⟨m3 - 1, by omega⟩
    have lA2 : A3.length ≤ A'.length := by rw [← w4, List.length_append, List.length_append]; omega
    have hr := has0 w3 (by omega) w5 w6
    obtain ⟨h4, e4, s4, l4⟩ := cs_all w3 (by omega) (by omega) tW w5 w6
    have ek : kS (nI W.length) h3 = some (1, h4) := by
      unfold kS
      rw [hr, ob, if_pos rfl, e4, ob]
    rw [w1, l14_end t w3 w7 w8 hr, if_pos rfl, ek, ite_self]
    rw [w4] at s4
    exact ⟨h4, rfl, (l2.tr w2).tr l4, s4⟩
end ModelSum2
