/-! ===== the model's machine ===== -/
def mop (op : Nat) : Nat := if op = 0 then 0 else if op = 1 then 1 else if op = 2 then 10 else if op = 3 then 11 else if op = 4 then 12 else op - 3
theorem mword {m num : Nat} (hm : m < 16) (hn : num < 100000) : nI (1048576 * m + num) / 1048576 = nI m ∧ jrem (nI (1048576 * m + num)) 1048576 = nI num := by
  have e : (1048576 : Int32) = nI 1048576 := rfl
  rw [e, nI_div (by omega) (by omega) (by omega), jrem_nI (by omega) (by omega) (by omega)]
  constructor
  · congr 1
    omega
  · congr 1
    omega
theorem reckon_eq {i : Nat} {x y : Int32} {h : AH} (hi : i < 8) (nd : ¬ dv0 i y) : fX12_reckon (nI (i + 2)) x y h = some (jn i x y) := by
  unfold fX12_reckon
  have : i = 0 ∨ i = 1 ∨ i = 2 ∨ i = 3 ∨ i = 4 ∨ i = 5 ∨ i = 6 ∨ i = 7 := by omega
  rcases this with rfl | rfl | rfl | rfl | rfl | rfl | rfl | rfl
  · rw [if_pos (show nI 2 = 2 from rfl)]; rfl
  · rw [if_neg (show ¬ nI 3 = 2 by decide), if_pos (show nI 3 = 3 from rfl)]; rfl
  · rw [if_neg (show ¬ nI 4 = 2 by decide), if_neg (show ¬ nI 4 = 3 by decide), if_pos (show nI 4 = 4 from rfl)]; rfl
  · have y0 : ¬ y = 0 := fun z => nd ⟨Or.inl rfl, z⟩
    rw [if_neg (show ¬ nI 5 = 2 by decide), if_neg (show ¬ nI 5 = 3 by decide), if_neg (show ¬ nI 5 = 4 by decide), if_pos (show nI 5 = 5 from rfl), if_neg y0]; rfl
  · have y0 : ¬ y = 0 := fun z => nd ⟨Or.inr rfl, z⟩
    rw [if_neg (show ¬ nI 6 = 2 by decide), if_neg (show ¬ nI 6 = 3 by decide), if_neg (show ¬ nI 6 = 4 by decide), if_neg (show ¬ nI 6 = 5 by decide), if_pos (show nI 6 = 6 from rfl), if_neg y0]; rfl
  · rw [if_neg (show ¬ nI 7 = 2 by decide), if_neg (show ¬ nI 7 = 3 by decide), if_neg (show ¬ nI 7 = 4 by decide), if_neg (show ¬ nI 7 = 5 by decide), if_neg (show ¬ nI 7 = 6 by decide), if_pos (show nI 7 = 7 from rfl)]
    show _ = some (if x < y then 1 else 0)
    split <;> rfl
  · rw [if_neg (show ¬ nI 8 = 2 by decide), if_neg (show ¬ nI 8 = 3 by decide), if_neg (show ¬ nI 8 = 4 by decide), if_neg (show ¬ nI 8 = 5 by decide), if_neg (show ¬ nI 8 = 6 by decide), if_neg (show ¬ nI 8 = 7 by decide), if_pos (show nI 8 = 8 from rfl)]
    show _ = some (if y < x then 1 else 0)
    split <;> rfl
  · rw [if_neg (show ¬ nI 9 = 2 by decide), if_neg (show ¬ nI 9 = 3 by decide), if_neg (show ¬ nI 9 = 4 by decide), if_neg (show ¬ nI 9 = 5 by decide), if_neg (show ¬ nI 9 = 6 by decide), if_neg (show ¬ nI 9 = 7 by decide), if_neg (show ¬ nI 9 = 8 by decide)]
    show _ = some (if x = y then 1 else 0)
    split <;> rfl
def kM : AH → Option (Int32 × AH) := fun (g45 : AH) => some (g45.1 102 (0 : Int32).toNatClampNeg, g45)
def WM4 (h : AH) (to : Nat) (p : Nat) (st : List Int32) (r : Int32) : Prop := ∀ (n : Nat) (ρ : Rw), rws ρ st → st.length ≤ 32 → p ≤ to → to - p < n → ∃ ρ', fX12_comesTo_l16 kM (nI to) 0 n (nI st.length) (nI p) (sR h 102 ρ) = some (r, sR h 102 ρ')
theorem WM_mch {h : AH} {A : Cd} {to a b : Nat} (hto : to ≤ 200) (hb : b ≤ to) (hc : ∀ p op num, p < 200 → A[p]? = some (op, num) → h.1 97 p = nI (1048576 * mop op + num) ∧ op < 13 ∧ num < 100000) : Mch A (h.1 103) a b (WM4 h to) := by
  intro p op num ha hpb e st r
  obtain ⟨c1, c2, c3⟩ := hc p op num (by omega) e
  have mo : mop op < 16 := by unfold mop; repeat' split <;> try omega
  obtain ⟨o1, o2⟩ := mword mo c3
  have at97 : ∀ ρ, (sR h 102 ρ).1 97 p = nI (1048576 * mop op + num) := fun ρ => by rw [sR_ne _ _ (by decide)]; exact c1
  have r102 : ∀ ρ, (sR h 102 ρ).1 102 = ρ := fun ρ => sR_at _ _ _
  have pto : nI p < nI to := nI_lt (by omega) (by omega)
  have gp := gd (show p < 220 by omega) (show 220 ≤ 4000 by decide)
  have gp' := gdn (show p < 220 by omega) (show 220 ≤ 4000 by decide)
  have cp : (nI p).toNatClampNeg = p := nI_clamp (by omega)
  have gk : ∀ k, k ≤ 32 → ¬ (nI k < 0 ∨ 220 ≤ (nI k).toNatClampNeg) := fun k hk => gd (show k < 220 by omega) (by decide)
  have ck : ∀ k, k ≤ 32 → (nI k).toNatClampNeg = k := fun k hk => nI_clamp (by omega)
  have sb : ∀ k, nI (k + 1) - 1 = nI k := fun k => by rw [nI_sub1 (by omega), Nat.add_sub_cancel]
  have up : ∀ ρ k v, sI (sR h 102 ρ) 102 k v = sR h 102 (upd ρ k v) := fun ρ k v => sI_R _ _ _ _ _
  refine ⟨fun q hk hl w n ρ hr hl2 hpt hn => ?_, fun q hk hl w n ρ hr hl2 hpt hn => ?_, fun q x hl w n ρ hr hl2 hpt hn => ?_, fun q x hl => ⟨fun x0 pn nb w n ρ hr hl2 hpt hn => ?_, fun x0 w n ρ hr hl2 hpt hn => ?_⟩, fun q x hl => ⟨fun x0 pn nb w n ρ hr hl2 hpt hn => ?_, fun x0 w n ρ hr hl2 hpt hn => ?_⟩, fun i q hi x y hl => ⟨fun d r0 n ρ hr hl2 hpt hn => ?_, fun d w n ρ hr hl2 hpt hn => ?_⟩⟩
  all_goals
    obtain ⟨m, rfl⟩ : ∃ m, n = m + 1 := ⟨n - 1, by omega⟩
    show ∃ ρ', fX12_comesTo_l16b (fX12_comesTo_l16 kM (nI to) 0 m) kM (nI to) 0 _ (nI p) (sR h 102 ρ) = _
    unfold fX12_comesTo_l16b
    rw [if_pos pto, if_neg gp, cp, at97, o1, o2, nI_1]
    subst q
    simp only [letT_eq, if_neg gp']
  · have e0 : nI (mop 0) = 0 := rfl
    rw [e0, if_pos rfl, if_pos rfl, if_neg (gk _ (by omega)), ck _ (by omega), up, nI_1]
    have := w m (upd ρ st.length (nI num)) (rws_push hr _) (by rw [List.length_cons]; omega) (by omega) (by omega)
    rw [List.length_cons] at this
    exact this
  · have e0 : nI (mop 1) = 1 := rfl
    rw [e0, if_neg d10', if_neg d10', if_pos rfl, if_neg (gd (show num < 8 from hk) (by decide)), if_neg (gk _ (by omega)), ck _ (by omega), nI_clamp (by omega), sR_ne _ _ (by decide), up, nI_1]
    have := w m (upd ρ st.length (h.1 103 num)) (rws_push hr _) (by rw [List.length_cons]; omega) (by omega) (by omega)
    rw [List.length_cons] at this
    exact this
  · obtain ⟨r1, r2⟩ := rws_pop hr
    have e0 : nI (mop 2) = 10 := rfl
    rw [e0, if_neg (show ¬ (10 : Int32) = 0 by decide), if_neg (show ¬ (10 : Int32) = 1 by decide), if_pos rfl, List.length_cons, sb, if_neg (gk _ (by omega)), if_neg (gk _ (by omega)), ck _ (by omega), r102, r1, up]
    have := w m (upd ρ st.length (1 - x)) (rws_push r2 _) (by rw [List.length_cons]; omega) (by omega) (by omega)
    rw [List.length_cons] at this
    exact this
  · obtain ⟨r1, r2⟩ := rws_pop hr
    have e0 : nI (mop 3) = 11 := rfl
    rw [e0, if_neg (show ¬ (11 : Int32) = 0 by decide), if_neg (show ¬ (11 : Int32) = 1 by decide), if_neg (show ¬ (11 : Int32) = 10 by decide), if_pos rfl, List.length_cons, sb, if_neg (gk _ (by omega)), if_neg (show ¬ (11 : Int32) = 12 by decide), ck _ (by omega), r102, r1, if_pos x0, Int32.zero_add]
    have := w m ρ hr (by rw [List.length_cons]; omega) (by omega) (by omega)
    rw [List.length_cons] at this
    exact this
  · obtain ⟨r1, r2⟩ := rws_pop hr
    have e0 : nI (mop 3) = 11 := rfl
    rw [e0, if_neg (show ¬ (11 : Int32) = 0 by decide), if_neg (show ¬ (11 : Int32) = 1 by decide), if_neg (show ¬ (11 : Int32) = 10 by decide), if_pos rfl, List.length_cons, sb, if_neg (gk _ (by omega)), if_neg (show ¬ (11 : Int32) = 12 by decide), ck _ (by omega), r102, r1, if_neg x0]
    exact w m ρ r2 (by omega) (by omega) (by omega)
  · obtain ⟨r1, r2⟩ := rws_pop hr
    have e0 : nI (mop 4) = 12 := rfl
    rw [e0, if_neg (show ¬ (12 : Int32) = 0 by decide), if_neg (show ¬ (12 : Int32) = 1 by decide), if_neg (show ¬ (12 : Int32) = 10 by decide), if_neg (show ¬ (12 : Int32) = 11 by decide), if_pos rfl, List.length_cons, sb, if_neg (gk _ (by omega)), if_pos rfl, ck _ (by omega), r102, r1, if_pos x0, Int32.zero_add]
    have := w m ρ hr (by rw [List.length_cons]; omega) (by omega) (by omega)
    rw [List.length_cons] at this
    exact this
  · obtain ⟨r1, r2⟩ := rws_pop hr
    have e0 : nI (mop 4) = 12 := rfl
    rw [e0, if_neg (show ¬ (12 : Int32) = 0 by decide), if_neg (show ¬ (12 : Int32) = 1 by decide), if_neg (show ¬ (12 : Int32) = 10 by decide), if_neg (show ¬ (12 : Int32) = 11 by decide), if_pos rfl, List.length_cons, sb, if_neg (gk _ (by omega)), if_pos rfl, ck _ (by omega), r102, r1, if_neg x0]
    exact w m ρ r2 (by omega) (by omega) (by omega)
  all_goals
    obtain ⟨r1, r2⟩ := rws_pop hr
    obtain ⟨r3, r4⟩ := rws_pop r2
    rw [List.length_cons] at r1
    have e0 : mop (5 + i) = i + 2 := by
      unfold mop
      rw [if_neg (by omega), if_neg (by omega), if_neg (by omega), if_neg (by omega), if_neg (by omega)]
      omega
    have ne : ∀ j, i + 2 ≠ j → j < 1000 → ¬ nI (i + 2) = nI j := fun j hj h1 => ne_lit (by omega) (by omega) hj
    rw [e0, if_neg (show ¬ nI (i + 2) = 0 from ne 0 (by omega) (by omega)), if_neg (show ¬ nI (i + 2) = 1 from ne 1 (by omega) (by omega)), if_neg (show ¬ nI (i + 2) = 10 from ne 10 (by omega) (by omega)), if_neg (show ¬ nI (i + 2) = 11 from ne 11 (by omega) (by omega)), if_neg (show ¬ nI (i + 2) = 12 from ne 12 (by omega) (by omega)), List.length_cons, List.length_cons, sb, sb]
    simp only [if_neg (gk st.length (by omega)), if_neg (gk (st.length + 1) (by omega))]
    rw [ck _ (by omega), ck _ (by omega), r102, r1, r3]
  · obtain ⟨hi', y0⟩ := d
    rw [if_pos y0, r0]
    rcases hi' with rfl | rfl
    · rw [if_pos (show nI (3 + 2) = 5 from rfl)]
      exact ⟨ρ, rfl⟩
    · rw [if_neg (show ¬ nI (4 + 2) = 5 by decide), if_pos (show nI (4 + 2) = 6 from rfl)]
      exact ⟨ρ, rfl⟩
  · rw [reckon_eq hi d, ob, up]
    have := w m (upd ρ st.length (jn i x y)) (rws_push r4 _) (by rw [List.length_cons]; omega) (by omega) (by omega)
    rw [List.length_cons] at this
    by_cases i3 : i = 3
    · have y0 : ¬ y = 0 := fun z => d ⟨Or.inl i3, z⟩
      rw [if_pos (show nI (i + 2) = 5 by rw [i3]; rfl), if_neg y0]
      exact this
    · rw [if_neg (show ¬ nI (i + 2) = 5 from ne 5 (by omega) (by omega))]
      by_cases i4 : i = 4
      · have y0 : ¬ y = 0 := fun z => d ⟨Or.inr i4, z⟩
        rw [if_pos (show nI (i + 2) = 6 by rw [i4]; rfl), if_neg y0]
        exact this
      · rw [if_neg (show ¬ nI (i + 2) = 6 from ne 6 (by omega) (by omega))]
        exact this
theorem WM_end {h : AH} {to : Nat} {x : Int32} (hto : to ≤ 200) : WM4 h to to [x] x := by
  intro n ρ hr hl hpt hn
  obtain ⟨m, rfl⟩ : ∃ m, n = m + 1 := ⟨n - 1, by omega⟩
  show ∃ ρ', fX12_comesTo_l16b (fX12_comesTo_l16 kM (nI to) 0 m) kM (nI to) 0 (nI 1) (nI to) (sR h 102 ρ) = _
  unfold fX12_comesTo_l16b
  obtain ⟨r1, -⟩ := rws_pop hr
  rw [if_neg (nI_nlt (Nat.le_refl _) (by omega))]
  unfold kM
  have : (sR h 102 ρ).1 102 (0 : Int32).toNatClampNeg = x := by rw [sR_at]; exact r1
  rw [this]
  exact ⟨ρ, rfl⟩
theorem Sgm.evM {A : Cd} {code : Rw} {a b d : Nat} {v : Rw → Option Int32} (s : Seg A a b d v) (hd : d ≤ 32) (hb : b ≤ 200) (hab : a ≤ b) (hc : ∀ p op num, p < 200 → A[p]? = some (op, num) → code p = nI (1048576 * mop op + num) ∧ op < 13 ∧ num < 100000) : EvM code (nI a) (nI b) (fun f => (v f).getD 0) := by
  intro h hE
  have m := WM_mch (h := h) (A := A) (to := b) (a := a) (b := b) hb (Nat.le_refl _) (fun p op num hp e => by rw [hE p (by omega)]; exact hc p op num hp e)
  have w : WM4 h b a [] ((v (h.1 103)).getD 0) := by
    obtain ⟨t1, t2⟩ := s (h.1 103) (WM4 h b) m [] ((v (h.1 103)).getD 0) (by simpa using hd)
    cases e : v (h.1 103) with
    | none => rw [e] at t2; exact t2 rfl rfl
    | some x => rw [e] at t1; exact t1 x rfl (WM_end hb)
  obtain ⟨ρ', e⟩ := w fuel0 (h.1 102) (rws_nil _) (by decide) hab (by have := fuel_big; omega)
  refine ⟨ρ', ?_⟩
  unfold fX12_comesTo
  have z : (220 : Int32) * (nI a / 220) = 0 := by
    rw [show (220 : Int32) = nI 220 from rfl, nI_div (by omega) (by omega) (by omega), Nat.div_eq_of_lt (by omega), nI_mul]
    rfl
  rw [letT_eq, z]
  rw [sR_self] at e
  exact e
