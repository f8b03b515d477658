/-! ===== the class's new proof, line by line ===== -/
theorem dpf_cong {K K' F F' S S' D D' : Rw} {i : Nat} (hi : i < 1000) (w : Lw K F S i) (hK : K' i = K i) (hF : F' i = F i) (hS : S' i = S i) (hD : ∀ k, k < i → D' k = D k) : dpf K' F' S' D' i = dpf K F S D i := by
  unfold dpf
  rw [hK, hF, hS]
  by_cases k0 : K i = 0
  · rw [if_pos k0, if_pos k0]
  · obtain ⟨q1, q2⟩ := w.at hi k0
    rw [if_neg k0, if_neg k0, hD _ q1]
    by_cases s0 : S i < 0
    · rw [if_pos s0, if_pos s0]
    · rw [if_neg s0, if_neg s0, hD _ (q2 s0)]
theorem ndf_cong {K K' F F' S S' D D' : Rw} {i : Nat} (hi : i < 1000) (w : Lw K F S i) (hK : K' i = K i) (hF : F' i = F i) (hS : S' i = S i) (hD : ∀ k, k < i → D' k = D k) : ndf K' F' S' D' i = ndf K F S D i := by
  unfold ndf
  rw [hK, hF, hS]
  by_cases k0 : K i = 0
  · rw [if_pos k0, if_pos k0]
  · obtain ⟨q1, q2⟩ := w.at hi k0
    rw [if_neg k0, if_neg k0, hD _ q1]
    by_cases s0 : S i < 0
    · rw [if_pos s0, if_pos s0]
    · rw [if_neg s0, if_neg s0, hD _ (q2 s0)]
def Wp (j M : Nat) (h : AH) : Prop := h.1 26 0 = nI j ∧ (∀ i, i < j → Lw (h.1 28) (h.1 29) (h.1 30) i) ∧ Cl j M (h.1 27) ∧ Der j (h.1 28) (h.1 29) (h.1 30) (h.1 31) (h.1 32) (h.1 33)
def EncL (C K F S : Rw) (l : List Ln) : Prop := ∀ i L, l[i]? = some L → C i = nI L.1 ∧ K i = nI L.2.1 ∧ F i = nI L.2.2.1 ∧ S i = lnS L
theorem EncL.add {C K F S : Rw} {l : List Ln} {L : Ln} (e : EncL C K F S l) : EncL (upd C l.length (nI L.1)) (upd K l.length (nI L.2.1)) (upd F l.length (nI L.2.2.1)) (upd S l.length (lnS L)) (l ++ [L]) := by
  intro i X hX
  by_cases lt : i < l.length
  · rw [List.getElem?_append_left lt] at hX
    rw [upd_ne _ _ (by omega), upd_ne _ _ (by omega), upd_ne _ _ (by omega), upd_ne _ _ (by omega)]
    exact e i X hX
  · have lq : i < (l ++ [L]).length := (List.getElem?_eq_some_iff.mp hX).1
    have : i = l.length := by rw [List.length_append] at lq; simp only [List.length_cons, List.length_nil] at lq; omega
    subst this
    rw [List.getElem?_append_right (Nat.le_refl _), Nat.sub_self] at hX
    have : L = X := Option.some.inj hX
    rw [upd_at, upd_at, upd_at, upd_at, this]
    exact ⟨rfl, rfl, rfl, rfl⟩
theorem lnV_Lw {M j : Nat} {L : Ln} {K F S : Rw} (v : LnV M j L) : Lw (upd K j (nI L.2.1)) (upd F j (nI L.2.2.1)) (upd S j (lnS L)) j := by
  unfold Lw
  rw [upd_at, upd_at, upd_at]
  obtain ⟨c, k, a, o⟩ := L
  dsimp only [lnS]
  rcases v.2 with ⟨x, y, z⟩ | ⟨x, y, z⟩ | ⟨x, y, b, hb, z⟩
  · dsimp only at x y z
    subst x z
    exact Or.inl ⟨rfl, ⟨a, y, rfl⟩, rfl⟩
  · dsimp only at x y z
    subst z
    refine Or.inr (Or.inl ⟨?_, ⟨a, y, rfl⟩, rfl⟩)
    rcases x with rfl | rfl
    · exact Or.inl rfl
    · exact Or.inr rfl
  · dsimp only at x y z
    subst z
    refine Or.inr (Or.inr ⟨?_, ⟨a, y, rfl⟩, b, hb, rfl⟩)
    rcases x with rfl | rfl
    · exact Or.inl rfl
    · exact Or.inr rfl
/-- whether line j has i, of its words -/
theorem adH_hasb {M j i : Nat} {L : Ln} {K F S : Rw} (hj : j < 20) (v : LnV M j L) (hi : i < 1000) : hasb (upd K j (nI L.2.1)) (upd F j (nI L.2.2.1)) (upd S j (lnS L)) j i = adH L i := by
  unfold hasb adH
  rw [upd_at, upd_at, upd_at]
  obtain ⟨c, k, a, o⟩ := L
  dsimp only [lnS]
  have ea : ∀ x : Nat, x < 1000 → (decide (nI x = nI i) = decide (x = i)) := fun x hx => by
    by_cases e : x = i
    · simp [e]
    · have := ne_lit (k := x) (j := i) (by omega) (by omega) e
      simp [e, this]
  have em : decide ((-2 : Int32) = nI i) = false := decide_eq_false (m2_ne (by omega))
  rcases v.2 with ⟨x, y, z⟩ | ⟨x, y, z⟩ | ⟨x, y, b, hb, z⟩
  · dsimp only at x y z
    subst x z
    show ((!decide (nI 0 = 0) && decide (nI a = nI i)) || decide ((-2 : Int32) = nI i)) = _
    rw [em]
    rfl
  · dsimp only at x y z
    subst z
    show ((!decide (nI k = 0) && decide (nI a = nI i)) || decide ((-2 : Int32) = nI i)) = _
    have k0 : ¬ k = 0 := by omega
    have nk : ¬ nI k = 0 := ne_lit (j := 0) (by omega) (by decide) k0
    rw [em, ea a (by omega)]
    simp [k0, nk]
  · dsimp only at x y z
    subst z
    show ((!decide (nI k = 0) && decide (nI a = nI i)) || decide (nI b = nI i)) = _
    have k0 : ¬ k = 0 := by omega
    have nk : ¬ nI k = 0 := ne_lit (j := 0) (by omega) (by decide) k0
    rw [ea a (by omega), ea b (by omega)]
    simp [k0, nk]
theorem hasb_top {K F S : Rw} {j i : Nat} (hi : i < 1000) (w : Lw K F S j) (hj : j ≤ i) : hasb K F S j i = false := by
  unfold hasb
  rcases w with ⟨h0, -, h2⟩ | ⟨h0, ⟨f, hf, ef⟩, h2⟩ | ⟨h0, ⟨f, hf, ef⟩, g, hg, eg⟩
  · rw [h0, h2, decide_eq_false (m2_ne (by omega))]
    simp
  · rw [h2, ef, decide_eq_false (m2_ne (by omega)), decide_eq_false (ne_lit (by omega) (by omega) (by omega))]
    simp
  · rw [ef, eg, decide_eq_false (ne_lit (by omega) (by omega) (show f ≠ i by omega)), decide_eq_false (ne_lit (by omega) (by omega) (show g ≠ i by omega))]
    simp
theorem add_wp {j M : Nat} {L : Ln} {g : AH} (w : Wp j M g) (hj : j < 20) (v : LnV M j L) : Wp (j + 1) M (fX6_add (nI L.1) (nI L.2.1) (nI L.2.2.1) (lnS L) g) ∧ (∀ c, c < 26 ∨ 33 < c → (fX6_add (nI L.1) (nI L.2.1) (nI L.2.2.1) (lnS L) g).1 c = g.1 c) ∧ (fX6_add (nI L.1) (nI L.2.1) (nI L.2.2.1) (lnS L) g).2 = g.2 ∧ ∀ l : List Ln, l.length = j → EncL (g.1 27) (g.1 28) (g.1 29) (g.1 30) l → EncL ((fX6_add (nI L.1) (nI L.2.1) (nI L.2.2.1) (lnS L) g).1 27) ((fX6_add (nI L.1) (nI L.2.1) (nI L.2.2.1) (lnS L) g).1 28) ((fX6_add (nI L.1) (nI L.2.1) (nI L.2.2.1) (lnS L) g).1 29) ((fX6_add (nI L.1) (nI L.2.1) (nI L.2.2.1) (lnS L) g).1 30) (l ++ [L]) := by
  obtain ⟨w1, w2, w3, w4⟩ := w
  obtain ⟨a1, a2, a3, a4, a5, a6, a7, a8, a9, a10, a11⟩ := add_eq hj w1 v (fun i hi => by
    obtain ⟨-, ⟨d, hd, e⟩, -⟩ := w4 i hi
    exact ⟨d, by omega, e⟩)
  refine ⟨⟨a3, ?_, ?_, ?_⟩, a1, a2, fun l hl e => ?_⟩
  · rw [a5, a6, a7]
    intro i hi
    by_cases e : i = j
    · rw [e]; exact lnV_Lw v
    · exact Lw.eq (upd_ne _ _ e).symm (upd_ne _ _ e).symm (upd_ne _ _ e).symm (w2 i (by omega))
  · rw [a4]
    intro i hi
    by_cases e : i = j
    · rw [e, upd_at]; exact ⟨L.1, v.1, rfl⟩
    · rw [upd_ne _ _ e]; exact w3 i (by omega)
  · rw [a5, a6, a7, a8, a9]
    have lw' : ∀ i, i < j → Lw (upd (g.1 28) j (nI L.2.1)) (upd (g.1 29) j (nI L.2.2.1)) (upd (g.1 30) j (lnS L)) i := fun i hi => Lw.eq (upd_ne _ _ (by omega)).symm (upd_ne _ _ (by omega)).symm (upd_ne _ _ (by omega)).symm (w2 i hi)
    intro i hi
    by_cases e : i = j
    · subst e
      have hc : ct (fun y => hasb (upd (g.1 28) i (nI L.2.1)) (upd (g.1 29) i (nI L.2.2.1)) (upd (g.1 30) i (lnS L)) y i) (i + 1) = 0 := by
        rw [ct_fst]
        refine fst_nil (fun y _ hy => ?_)
        by_cases ey : y = i
        · rw [ey]; exact hasb_top (by omega) (lnV_Lw v) (Nat.le_refl _)
        · exact hasb_top (by omega) (lw' y (by omega)) (by omega)
      rw [upd_at, upd_at, a11, hc]
      have aN : ∀ x, x < i → (nI x).toNatClampNeg = x := fun x hx => nI_clamp (by omega)
      have un : ∀ (r : Rw) (z : Int32) x, x < i → upd r i z x = r x := fun r z x hx => upd_ne _ _ (by omega)
      have nn : ∀ x, x < i → ¬ nI x < 0 := fun x hx => nI_pos (by omega)
      obtain ⟨c, k, a, o⟩ := L
      have v2 := v.2
      dsimp only at v2
      have z0 : ∀ x, ¬ x = 0 → x < 100 → ¬ nI x = 0 := fun x hx h1 => ne_lit (j := 0) (by omega) (by decide) hx
      rcases v2 with ⟨x, y, z⟩ | ⟨x, y, z⟩ | ⟨x, y, b, hb, z⟩
      · subst x z
        refine ⟨?_, ⟨0, Nat.zero_le _, rfl⟩, rfl, ?_, 0, Nat.two_pow_pos _, rfl⟩
        · unfold dpf
          rw [upd_at, if_pos (show nI 0 = 0 from rfl)]
          rfl
        · unfold ndf
          rw [upd_at, if_pos (show nI 0 = 0 from rfl)]
          rfl
      · subst z
        obtain ⟨-, ⟨d, hd, ed⟩, -, -, s, hs, es⟩ := w4 a y
        have k0 : ¬ k = 0 := by omega
        have nk := z0 k k0 (by omega)
        have eD : adD (g.1 31) (c, k, a, none) = g.1 31 a + 1 := by unfold adD; rw [if_neg k0]
        have eN : adN (g.1 33) (c, k, a, none) = g.1 33 a ||| jshl 1 (nI a) := by unfold adN; rw [if_neg k0]
        rw [eD, eN]
        refine ⟨?_, ⟨d + 1, by omega, by rw [ed, nI_1]⟩, rfl, ?_, s ||| 2 ^ a, ?_, ?_⟩
        · unfold dpf
          rw [upd_at, if_neg nk, upd_at, upd_at, if_pos (show lnS (c, k, a, none) < 0 from (show (-2 : Int32) < 0 by decide)), aN a y, un _ _ a y]
        · unfold ndf
          rw [upd_at, if_neg nk, upd_at, upd_at, if_pos (show lnS (c, k, a, none) < 0 from (show (-2 : Int32) < 0 by decide)), aN a y, un _ _ a y]
        · exact Nat.or_lt_two_pow (Nat.lt_of_lt_of_le hs (Nat.pow_le_pow_right (by decide) (by omega))) (Nat.pow_lt_pow_right (by decide) y)
        · rw [es, or_bit (by omega)]
      · subst z
        obtain ⟨-, ⟨d, hd, ed⟩, -, -, s, hs, es⟩ := w4 a y
        obtain ⟨-, ⟨d', hd', ed'⟩, -, -, s', hs', es'⟩ := w4 b hb
        have k0 : ¬ k = 0 := by omega
        have nk := z0 k k0 (by omega)
        have eD : adD (g.1 31) (c, k, a, some b) = jmax (g.1 31 a + 1) (g.1 31 b + 1) := by unfold adD; rw [if_neg k0]
        have eN : adN (g.1 33) (c, k, a, some b) = (g.1 33 a ||| jshl 1 (nI a)) ||| (g.1 33 b ||| jshl 1 (nI b)) := by unfold adN; rw [if_neg k0]
        rw [eD, eN]
        have eS : lnS (c, k, a, some b) = nI b := rfl
        refine ⟨?_, ?_, rfl, ?_, (s ||| 2 ^ a) ||| (s' ||| 2 ^ b), ?_, ?_⟩
        · unfold dpf
          rw [upd_at, if_neg nk, upd_at, upd_at, eS, if_neg (nn b hb), aN a y, aN b hb, un _ _ a y, un _ _ b hb]
        · rw [ed, ed', nI_1, nI_1]
          unfold jmax
          by_cases lt : d + 1 < d' + 1
          · rw [if_pos (nI_lt lt (by omega))]; exact ⟨d' + 1, by omega, rfl⟩
          · rw [if_neg (nI_nlt (by omega) (by omega))]; exact ⟨d + 1, by omega, rfl⟩
        · unfold ndf
          rw [upd_at, if_neg nk, upd_at, upd_at, eS, if_neg (nn b hb), aN a y, aN b hb, un _ _ a y, un _ _ b hb]
        · exact Nat.or_lt_two_pow (Nat.or_lt_two_pow (Nat.lt_of_lt_of_le hs (Nat.pow_le_pow_right (by decide) (by omega))) (Nat.pow_lt_pow_right (by decide) y)) (Nat.or_lt_two_pow (Nat.lt_of_lt_of_le hs' (Nat.pow_le_pow_right (by decide) (by omega))) (Nat.pow_lt_pow_right (by decide) hb))
        · rw [es, es', or_bit (by omega), or_bit (by omega), fa_or]
    · have ij : i < j := by omega
      obtain ⟨d1, d2, d3, d4, d5⟩ := w4 i ij
      rw [upd_ne _ _ e, upd_ne _ _ e]
      refine ⟨?_, d2, ?_, ?_, d5⟩
      · rw [dpf_cong (K := g.1 28) (F := g.1 29) (S := g.1 30) (D := g.1 31) (by omega) (w2 i ij) (upd_ne _ _ e) (upd_ne _ _ e) (upd_ne _ _ e) (fun k hk => upd_ne _ _ (by omega))]
        exact d1
      · rw [a10 i ij, d3, ct_succ, adH_hasb hj v (by omega)]
        have : ct (fun y => hasb (upd (g.1 28) j (nI L.2.1)) (upd (g.1 29) j (nI L.2.2.1)) (upd (g.1 30) j (lnS L)) y i) j = ct (fun y => hasb (g.1 28) (g.1 29) (g.1 30) y i) j := ct_cong (fun y hy => hasb_eq (upd_ne _ _ (by omega)) (upd_ne _ _ (by omega)) (upd_ne _ _ (by omega)))
        rw [this]
        cases adH L i with
        | false => rw [if_neg (by decide), Int32.add_zero]; rfl
        | true => rw [if_pos rfl, nI_1]; rfl
      · rw [ndf_cong (K := g.1 28) (F := g.1 29) (S := g.1 30) (D := g.1 33) (by omega) (w2 i ij) (upd_ne _ _ e) (upd_ne _ _ e) (upd_ne _ _ e) (fun k hk => upd_ne _ _ (by omega))]
        exact d4
  · rw [a4, a5, a6, a7, ← hl]
    exact e.add
/-! ===== the whole text ===== -/
def pLoop (B : Nat → Int32) (n M : Nat) : Nat → Nat → List Ln → Rs (List Ln)
  | 0, _, _ => .inl 1
  | k + 1, p, l => match pLine B M l.length p with
    | .inl f => .inl f
    | .inr (L, q) => if q = n then .inr (l ++ [L]) else if B q = nI 59 then pLoop B n M k (q + 1) (l ++ [L]) else .inl (1000 + q)
theorem pLine_ok {B : Nat → Int32} {n M j p q : Nat} {L : Ln} (t : Txt B n) (hj : j ≤ 20) (h : pLine B M j p = .inr (L, q)) : j < 20 ∧ LnV M j L ∧ p < q ∧ q ≤ n := by
  unfold pLine at h
  cases e1 : (dg (B p)).isNone with
  | true => rw [e1, if_pos rfl] at h; cases h
  | false =>
    rw [e1, if_neg (by decide)] at h
    by_cases j20 : j = 20
    · rw [if_pos j20] at h; cases h
    · rw [if_neg j20] at h
      cases e2 : pNum B M 3 p with
      | inl f => rw [e2] at h; cases h
      | inr cq =>
        obtain ⟨c, p1⟩ := cq
        rw [e2] at h
        obtain ⟨c1, -, c3, c4⟩ := pNum_ok t e2
        dsimp only at h
        by_cases c61 : B p1 = nI 61
        · rw [if_pos c61] at h
          have l1 := t.lit (by decide) c61
          unfold pRule at h
          cases ek : kd (B (p1 + 1)) with
          | none => rw [ek] at h; cases h
          | some k =>
            obtain ⟨-, k5, kpos⟩ := kd_amg.1 k ek
            have l2 : p1 + 1 < n := t.inn (fun z => kpos (by rw [z]; decide))
            rw [ek] at h
            dsimp only at h
            by_cases k0 : k = 0
            · rw [if_pos k0] at h
              cases ed : dg (B (p1 + 1 + 1)) with
              | none => rw [ed] at h; cases h
              | some d =>
                rw [ed] at h
                have l3 := t.dig ed
                injection Sum.inr.inj h with h1 h2
                subst h1
                exact ⟨by omega, ⟨c1, Or.inl ⟨rfl, (dg_some ed).1, rfl⟩⟩, by omega, by omega⟩
            · rw [if_neg k0] at h
              cases ea : pNum B j 6 (p1 + 1 + 1) with
              | inl f => rw [ea] at h; cases h
              | inr aq =>
                obtain ⟨a, p2⟩ := aq
                rw [ea] at h
                obtain ⟨a1, -, a3, a4⟩ := pNum_ok t ea
                dsimp only at h
                by_cases k3 : k < 3
                · rw [if_pos k3] at h
                  injection Sum.inr.inj h with h1 h2
                  subst h1
                  exact ⟨by omega, ⟨c1, Or.inr (Or.inl ⟨by dsimp only; omega, a1, rfl⟩)⟩, by omega, by omega⟩
                · rw [if_neg k3] at h
                  by_cases c44 : B p2 = nI 44
                  · rw [if_pos c44] at h
                    cases eb : pNum B j 6 (p2 + 1) with
                    | inl f => rw [eb] at h; cases h
                    | inr br =>
                      obtain ⟨b, p3⟩ := br
                      rw [eb] at h
                      obtain ⟨b1, -, b3, b4⟩ := pNum_ok t eb
                      injection Sum.inr.inj h with h1 h2
                      subst h1
                      exact ⟨by omega, ⟨c1, Or.inr (Or.inr ⟨by dsimp only; omega, a1, b, b1, rfl⟩)⟩, by omega, by omega⟩
                  · rw [if_neg c44] at h; cases h
        · rw [if_neg c61] at h; cases h
def PFr (h g : AH) : Prop := (∀ c, c ≠ 1 → c < 26 ∨ 33 < c → g.1 c = h.1 c) ∧ (∀ j, j ≠ 2 → j ≠ 3 → j ≠ 4 → g.1 1 j = h.1 1 j) ∧ g.2 = h.2
theorem PFr.tr {h g k : AH} (a : PFr h g) (b : PFr g k) : PFr h k := ⟨fun c h1 h2 => (b.1 c h1 h2).trans (a.1 c h1 h2), fun j h1 h2 h3 => (b.2.1 j h1 h2 h3).trans (a.2.1 j h1 h2 h3), b.2.2.trans a.2.2⟩
theorem Fr1.p {h g : AH} (a : Fr1 h g) : PFr h g := ⟨fun c h1 _ => a.1 c h1, a.2.1, a.2.2⟩
theorem Wp.fr {j M : Nat} {h g : AH} (f : Fr1 h g) (w : Wp j M h) : Wp j M g := by
  unfold Wp
  rw [f.1 26 (by decide), f.1 27 (by decide), f.1 28 (by decide), f.1 29 (by decide), f.1 30 (by decide), f.1 31 (by decide), f.1 32 (by decide), f.1 33 (by decide)]
  exact w
theorem Sd.add {B : Nat → Int32} {n p : Nat} {h g : AH} (e : g.1 1 = h.1 1) (s : Sd B n p h) : Sd B n p g := by
  unfold Sd
  rw [e]
  exact s
theorem readProof17 {B : Nat → Int32} {n M : Nat} (t : Txt B n) (hM : M ≤ 97) : ∀ (k p m : Nat) (l : List Ln) (g : AH), l.length + k = 21 → l.length ≤ 20 → k < m → Tx B n g → Sd B n p g → Wp l.length M g → EncL (g.1 27) (g.1 28) (g.1 29) (g.1 30) l →
    (∀ f, pLoop B n M k p l = .inl f → ∃ g', fX7_readProof_l17 (fun (g10 : AH) => some (-(g10.1 1 4), g10)) (fun (g11 : AH) => some (-(g11.1 1 4), g11)) (nI M) m (nI l.length) g = some (-(nI f), g') ∧ PFr g g' ∧ 0 < f ∧ f < 100000) ∧
    ∀ l', pLoop B n M k p l = .inr l' → ∃ g', fX7_readProof_l17 (fun (g10 : AH) => some (-(g10.1 1 4), g10)) (fun (g11 : AH) => some (-(g11.1 1 4), g11)) (nI M) m (nI l.length) g = some (nI l'.length, g') ∧ PFr g g' ∧ 0 < l'.length ∧ l'.length ≤ 20 ∧ Wp l'.length M g' ∧ EncL (g'.1 27) (g'.1 28) (g'.1 29) (g'.1 30) l' := by
  intro k
  induction k with
  | zero => intro p m l g h1 h2; omega
  | succ k ih =>
    intro p m l g h1 h2 h3 x s w e
    obtain ⟨m, rfl⟩ : ∃ m', m = m' + 1 := ⟨m - 1, by omega⟩
    have o := readLine_sd t x s h2 hM
    have un : fX7_readProof_l17 (fun (g10 : AH) => some (-(g10.1 1 4), g10)) (fun (g11 : AH) => some (-(g11.1 1 4), g11)) (nI M) (m + 1) (nI l.length) g = fX7_readProof_l17b (fX7_readProof_l17 (fun (g10 : AH) => some (-(g10.1 1 4), g10)) (fun (g11 : AH) => some (-(g11.1 1 4), g11)) (nI M) m) (fun (g10 : AH) => some (-(g10.1 1 4), g10)) (fun (g11 : AH) => some (-(g11.1 1 4), g11)) (nI M) (nI l.length) g := rfl
    rw [un]
    unfold fX7_readProof_l17b pLoop
    rw [if_neg (show ¬ (20 : Int32) < nI l.length from nI_nlt (a := 20) h2 (by omega)), letT_eq, letT_eq, letT_eq]
    cases eL : pLine B M l.length p with
    | inl f0 =>
      obtain ⟨f1, x1⟩ := o.1 f0 eL
      generalize fX7_readLine (nI l.length) (nI M) g = g4 at f1 x1
      have x2 := x1.expect (w := 59)
      have f2 := expect_fr 59 g4
      rw [x1.sound, if_pos rfl, x2.sound, if_pos rfl]
      refine ⟨fun f q => ?_, fun l' q => (by cases q)⟩
      rw [← Sum.inl.inj q]
      exact ⟨_, by dsimp only; rw [x2.2.2], (f1.tr f2).p, x2.1, x2.2.1⟩
    | inr Lq =>
      obtain ⟨L, q⟩ := Lq
      obtain ⟨j20, v, pq, qn⟩ := pLine_ok t h2 eL
      obtain ⟨g0, f1, s1, eg⟩ := o.2 L q eL
      have eg' : fX7_readLine (nI l.length) (nI M) g = fX6_add (nI L.1) (nI L.2.1) (nI L.2.2.1) (lnS L) g0 := eg
      obtain ⟨w2, c2, j2, en2⟩ := add_wp (w.fr f1) j20 v
      rw [← eg'] at w2 c2 j2 en2
      have en3 := en2 l rfl (by rw [f1.1 27 (by decide), f1.1 28 (by decide), f1.1 29 (by decide), f1.1 30 (by decide)]; exact e)
      have c1 := c2 1 (by omega)
      have s2 : Sd B n q (fX7_readLine (nI l.length) (nI M) g) := s1.add c1
      have x2 : Tx B n (fX7_readLine (nI l.length) (nI M) g) := by
        unfold Tx
        rw [c1, c2 2 (by omega)]
        exact x.fr f1
      have pf : PFr g (fX7_readLine (nI l.length) (nI M) g) := f1.p.tr ⟨fun c _ hc => c2 c hc, fun j _ _ _ => by rw [c1], j2⟩
      generalize fX7_readLine (nI l.length) (nI M) g = g4 at w2 en3 s2 x2 pf
      have len : (l ++ [L]).length = l.length + 1 := by rw [List.length_append]; rfl
      rw [s2.sound, if_neg d10', s2.atEnd t x2]
      dsimp only
      by_cases qe : q = n
      · rw [if_pos qe, if_pos qe, if_neg d10']
        refine ⟨fun f z => (by cases z), fun l' z => ?_⟩
        rw [← Sum.inr.inj z]
        exact ⟨g4, by rw [w2.1, len], pf, by omega, by omega, by rw [len]; exact w2, en3⟩
      · rw [if_neg qe, if_neg qe, if_pos rfl]
        obtain ⟨ex1, ex2⟩ := s2.expect (k := 59) t x2 (by decide)
        rw [show nI 59 = 59 from rfl] at ex1 ex2
        have f3 := expect_fr 59 g4
        by_cases c59 : B q = nI 59
        · rw [if_pos c59]
          have s3 := ex1 c59
          rw [s3.sound, if_neg d10', nI_1]
          have := ih (q + 1) m (l ++ [L]) (fX10_expect 59 g4) (by rw [len]; omega) (by rw [len]; omega) (by omega) (x2.fr f3) s3 (by rw [len]; exact w2.fr f3) (by rw [f3.1 27 (by decide), f3.1 28 (by decide), f3.1 29 (by decide), f3.1 30 (by decide)]; exact en3)
          rw [len] at this
          obtain ⟨i1, i2⟩ := this
          refine ⟨fun f z => ?_, fun l' z => ?_⟩
          · obtain ⟨g', a, b, c⟩ := i1 f z
            exact ⟨g', a, (pf.tr f3.p).tr b, c⟩
          · obtain ⟨g', a, b, c⟩ := i2 l' z
            exact ⟨g', a, (pf.tr f3.p).tr b, c⟩
        · rw [if_neg c59]
          have x3 := ex2 c59
          rw [x3.sound, if_pos rfl]
          refine ⟨fun f z => ?_, fun l' z => (by cases z)⟩
          rw [← Sum.inl.inj z]
          exact ⟨_, by rw [x3.2.2], pf.tr f3.p, x3.1, x3.2.1⟩
