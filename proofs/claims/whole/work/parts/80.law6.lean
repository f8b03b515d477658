/-! ===== the class's machine ===== -/
theorem jshr4 {w : Nat} (h : w < 2 ^ 31) : jshr (nI w) 4 = nI (w / 16) := by
  refine b_ext (fun i hi => ?_)
  have e := b_sshr 4 (by decide) (nI w) hi
  have e' : bt (jshr (nI w) 4) i = if 4 + i < 32 then bt (nI w) (4 + i) else bt (nI w) 31 := e
  rw [e', bt_nI hi, show (16 : Nat) = 2 ^ 4 from rfl, Nat.testBit_div_two_pow]
  by_cases c : 4 + i < 32
  · rw [if_pos c, bt_nI c, Nat.add_comm]
  · rw [if_neg c, bt_nI (by decide), tb_big h (by decide), tb_big h (by omega)]
theorem word_op {op num : Nat} (h : op < 16) (hn : num < 100000) : nI (16 * num + op) &&& 15 = nI op ∧ jshr (nI (16 * num + op)) 4 = nI num := by
  constructor
  · have := fa_mask (16 * num + op) 4
    have e : nI (16 * num + op) &&& 15 = nI ((16 * num + op) % 2 ^ 4) := this
    rw [e]
    congr 1
    omega
  · rw [jshr4 (by omega)]
    congr 1
    omega
def EncC5 (code : Rw) (A : Cd) : Prop := ∀ p op num, A[p]? = some (op, num) → code p = nI (16 * num + op) ∧ op < 16 ∧ num < 100000
def hX (h : AH) (k : Nat) (ρ : Rw) : AH := sR (sI (sI h 42 3 0) 42 4 (nI k)) 48 ρ
def rws (ρ : Rw) (st : List Int32) : Prop := ∀ i x, st[i]? = some x → ρ (st.length - 1 - i) = x
theorem rws_nil (ρ : Rw) : rws ρ [] := fun i x h => by cases h
theorem rws_push {ρ : Rw} {st : List Int32} (h : rws ρ st) (x : Int32) : rws (upd ρ st.length x) (x :: st) := by
  intro i y hy
  rw [List.length_cons]
  cases i with
  | zero =>
    have : x = y := Option.some.inj hy
    rw [show st.length + 1 - 1 - 0 = st.length by omega, upd_at, this]
  | succ i =>
    have hy' : st[i]? = some y := hy
    have l := (List.getElem?_eq_some_iff.mp hy').1
    rw [show st.length + 1 - 1 - (i + 1) = st.length - 1 - i by omega, upd_ne _ _ (by omega)]
    exact h i y hy'
theorem rws_pop {ρ : Rw} {st : List Int32} {x : Int32} (h : rws ρ (x :: st)) : ρ st.length = x ∧ rws ρ st := by
  constructor
  · have := h 0 x rfl
    rw [List.length_cons, show st.length + 1 - 1 - 0 = st.length by omega] at this
    exact this
  · intro i y hy
    have := h (i + 1) y hy
    rw [List.length_cons, show st.length + 1 - 1 - (i + 1) = st.length - 1 - i by omega] at this
    exact this
theorem hX_4 {h : AH} {k k' : Nat} {ρ : Rw} : sI (hX h k ρ) 42 4 (nI k') = hX h k' ρ := by
  unfold hX
  rw [← sR_sI_comm (by decide), sI_sI]
theorem hX_3 {h : AH} {k : Nat} {ρ : Rw} : sI (hX h k ρ) 42 3 0 = hX h k ρ := sI_same (by
  unfold hX
  rw [sR_ne _ _ (by decide), sI_at, upd_ne _ _ (by decide), sI_at, upd_at])
theorem hX_r3 {h : AH} {k : Nat} {ρ : Rw} : (hX h k ρ).1 42 3 = 0 := by
  unfold hX
  rw [sR_ne _ _ (by decide), sI_at, upd_ne _ _ (by decide), sI_at, upd_at]
theorem hX_r4 {h : AH} {k : Nat} {ρ : Rw} : (hX h k ρ).1 42 4 = nI k := by
  unfold hX
  rw [sR_ne _ _ (by decide), sI_at, upd_at]
theorem hX_c {h : AH} {k : Nat} {ρ : Rw} {c : Nat} (h1 : c ≠ 42) (h2 : c ≠ 48) : (hX h k ρ).1 c = h.1 c := by
  unfold hX
  rw [sR_ne _ _ h2, sI_ne _ _ _ h1, sI_ne _ _ _ h1]
theorem hX_push {h : AH} {k : Nat} {ρ : Rw} {v : Int32} (hk : k < 32) : fX4_push v (hX h k ρ) = hX h (k + 1) (upd ρ k v) := by
  unfold fX4_push
  rw [letT_eq, letT_eq, hX_r4, put_in (show k < aln 48 from hk)]
  have e : sI (hX h k ρ) 48 k v = hX h k (upd ρ k v) := by unfold hX; exact sI_R _ _ _ _ _
  rw [e, hX_r4, nI_1, hX_4]
theorem hX_pop {h : AH} {k : Nat} {ρ : Rw} (hk : k < 32) : fX4_pop (hX h (k + 1) ρ) = (ρ k, hX h k ρ) := by
  unfold fX4_pop
  rw [letT_eq, hX_r4, nI_sub1 (by omega), Nat.add_sub_cancel]
  have e : jmax 0 (nI k) = nI k := by
    unfold jmax
    by_cases z : 0 < k
    · rw [if_pos (show (0 : Int32) < nI k from nI_lt (a := 0) z (by omega))]
    · have : k = 0 := by omega
      rw [this]
      rfl
  rw [e, hX_4, hX_r4, at_in (show k < aln 48 from hk)]
  have : (hX h k ρ).1 48 = ρ := by unfold hX; exact sR_at _ _ _
  rw [this]
theorem joined_no {i : Nat} {x y : Int32} {h : AH} {k : Nat} {ρ : Rw} (hi : i < 8) (nd : ¬ dv0 i y) : fX4_joined (nI i) x y (hX h k ρ) = (jn i x y, hX h k ρ) := by
  unfold fX4_joined
  have : i = 0 ∨ i = 1 ∨ i = 2 ∨ i = 3 ∨ i = 4 ∨ i = 5 ∨ i = 6 ∨ i = 7 := by omega
  rcases this with rfl | rfl | rfl | rfl | rfl | rfl | rfl | rfl
  · rw [if_pos (show nI 0 = 0 from rfl)]; rfl
  · rw [if_neg (show ¬ nI 1 = 0 by decide), if_pos (show nI 1 = 1 from rfl)]; rfl
  · rw [if_neg (show ¬ nI 2 = 0 by decide), if_neg (show ¬ nI 2 = 1 by decide), if_pos (show nI 2 = 2 from rfl)]; rfl
  · have y0 : ¬ y = 0 := fun z => nd ⟨Or.inl rfl, z⟩
    rw [if_neg (show ¬ nI 3 = 0 by decide), if_neg (show ¬ nI 3 = 1 by decide), if_neg (show ¬ nI 3 = 2 by decide), if_pos (show nI 3 = 3 from rfl), hX_r3, if_pos rfl, if_neg y0, letT_eq, if_neg y0, hX_3]
    rfl
  · have y0 : ¬ y = 0 := fun z => nd ⟨Or.inr rfl, z⟩
    rw [if_neg (show ¬ nI 4 = 0 by decide), if_neg (show ¬ nI 4 = 1 by decide), if_neg (show ¬ nI 4 = 2 by decide), if_neg (show ¬ nI 4 = 3 by decide), if_pos (show nI 4 = 4 from rfl), hX_r3, if_pos rfl, if_neg y0, letT_eq, if_neg y0, hX_3]
    rfl
  · rw [if_neg (show ¬ nI 5 = 0 by decide), if_neg (show ¬ nI 5 = 1 by decide), if_neg (show ¬ nI 5 = 2 by decide), if_neg (show ¬ nI 5 = 3 by decide), if_neg (show ¬ nI 5 = 4 by decide), if_pos (show nI 5 = 5 from rfl)]
    show _ = ((if x < y then 1 else 0), hX h k ρ)
    split <;> rfl
  · rw [if_neg (show ¬ nI 6 = 0 by decide), if_neg (show ¬ nI 6 = 1 by decide), if_neg (show ¬ nI 6 = 2 by decide), if_neg (show ¬ nI 6 = 3 by decide), if_neg (show ¬ nI 6 = 4 by decide), if_neg (show ¬ nI 6 = 5 by decide), if_pos (show nI 6 = 6 from rfl)]
    show _ = ((if y < x then 1 else 0), hX h k ρ)
    split <;> rfl
  · rw [if_neg (show ¬ nI 7 = 0 by decide), if_neg (show ¬ nI 7 = 1 by decide), if_neg (show ¬ nI 7 = 2 by decide), if_neg (show ¬ nI 7 = 3 by decide), if_neg (show ¬ nI 7 = 4 by decide), if_neg (show ¬ nI 7 = 5 by decide), if_neg (show ¬ nI 7 = 6 by decide)]
    show _ = ((if x = y then 1 else 0), hX h k ρ)
    split <;> rfl
theorem joined_yes {i : Nat} {x y : Int32} {h : AH} {k : Nat} {ρ : Rw} (d : dv0 i y) : fX4_joined (nI i) x y (hX h k ρ) = (0, sI (hX h k ρ) 42 3 1) := by
  obtain ⟨hi, y0⟩ := d
  unfold fX4_joined
  rcases hi with rfl | rfl
  · rw [if_neg (show ¬ nI 3 = 0 by decide), if_neg (show ¬ nI 3 = 1 by decide), if_neg (show ¬ nI 3 = 2 by decide), if_pos (show nI 3 = 3 from rfl), hX_r3, if_pos rfl, if_pos y0, letT_eq, if_pos y0]
  · rw [if_neg (show ¬ nI 4 = 0 by decide), if_neg (show ¬ nI 4 = 1 by decide), if_neg (show ¬ nI 4 = 2 by decide), if_neg (show ¬ nI 4 = 3 by decide), if_pos (show nI 4 = 4 from rfl), hX_r3, if_pos rfl, if_pos y0, letT_eq, if_pos y0]
def kX : AH → Option (Int32 × AH) := fun (g28 : AH) => if (g28.1 42 3) = 0 then letT (fX4_pop g28) (fun b30 => some (b30.1, b30.2)) else some ((0 : Int32), g28)
def WX4 (h : AH) (to : Nat) (p : Nat) (st : List Int32) (r : Int32) : Prop := ∀ (n s : Nat) (ρ : Rw), rws ρ st → st.length ≤ 32 → s ≤ p → p ≤ to → 201 < n + s → ∃ u v ρ', fX4_run_l15 kX (nI to) n (nI p) (nI s) (hX h st.length ρ) = some (r, sR (sI (sI h 42 3 u) 42 4 v) 48 ρ')
theorem WX_mch {h : AH} {A : Cd} {to a b : Nat} (hto : to ≤ 200) (hb : b ≤ to) (hc : ∀ p op num, p < 200 → A[p]? = some (op, num) → h.1 43 p = nI (16 * num + op) ∧ op < 16 ∧ num < 100000) : Mch A (h.1 47) a b (WX4 h to) := by
  intro p op num ha hpb e st r
  obtain ⟨c1, c2, c3⟩ := hc p op num (by omega) e
  obtain ⟨o1, o2⟩ := word_op c2 c3
  -- one turn
  have turn : ∀ (n s k : Nat) (ρ : Rw), s ≤ p → 201 < n + s → ∃ m, n = m + 1 ∧ fX4_run_l15 kX (nI to) n (nI p) (nI s) (hX h k ρ) = fX4_run_l15b (fX4_run_l15 kX (nI to) m) kX (nI to) (nI p) (nI s) (hX h k ρ) ∧ 201 < m + (s + 1) := fun n s k ρ hs hn => by
    obtain ⟨m, rfl⟩ : ∃ m, n = m + 1 := ⟨n - 1, by omega⟩
    exact ⟨m, rfl, rfl, by omega⟩
  have at43 : ∀ k ρ, fX11_at 43 (nI p) (hX h k ρ) = nI (16 * num + op) := fun k ρ => by
    rw [at_in (show p < aln 43 by show _ < 200; omega), hX_c (by decide) (by decide)]
    exact c1
  have opn : ∀ j, j < 100 → ((nI op = nI j) ↔ op = j) := fun j hj => nI_eq (by omega) (by omega)
  have s200 : ∀ s, s ≤ p → nI s < 200 := fun s hs => nI_lt (b := 200) (by omega) (by decide)
  have pto : nI p < nI to := nI_lt (by omega) (by omega)
  refine ⟨fun q hk hl w n s ρ hr hl2 hs hpt hn => ?_, fun q hk hl w n s ρ hr hl2 hs hpt hn => ?_, fun q x hl w n s ρ hr hl2 hs hpt hn => ?_, fun q x hl => ⟨fun x0 pn nb w n s ρ hr hl2 hs hpt hn => ?_, fun x0 w n s ρ hr hl2 hs hpt hn => ?_⟩, fun q x hl => ⟨fun x0 pn nb w n s ρ hr hl2 hs hpt hn => ?_, fun x0 w n s ρ hr hl2 hs hpt hn => ?_⟩, fun i q hi x y hl => ⟨fun d r0 n s ρ hr hl2 hs hpt hn => ?_, fun d w n s ρ hr hl2 hs hpt hn => ?_⟩⟩
  all_goals
    obtain ⟨m, -, et, hm⟩ := turn n s _ ρ hs hn
    rw [et]
    unfold fX4_run_l15b
    rw [if_pos (s200 s hs), if_pos pto, hX_r3, if_pos rfl, letT_eq, letT_eq, at43, o1, o2, nI_1, nI_1]
    subst q
  · rw [if_pos (show nI 0 = 0 from rfl), letT_eq, hX_push hl]
    have := w m (s + 1) (upd ρ st.length (nI num)) (rws_push hr _) (by rw [List.length_cons]; omega) (by omega) (by omega) hm
    rw [List.length_cons] at this
    exact this
  · rw [if_neg (show ¬ nI 1 = 0 by decide), if_pos (show nI 1 = 1 from rfl), letT_eq, hX_push hl, at_in (show num < aln 47 from hk), hX_c (by decide) (by decide)]
    have := w m (s + 1) (upd ρ st.length (h.1 47 num)) (rws_push hr _) (by rw [List.length_cons]; omega) (by omega) (by omega) hm
    rw [List.length_cons] at this
    exact this
  · obtain ⟨r1, r2⟩ := rws_pop hr
    rw [if_neg (show ¬ nI 2 = 0 by decide), if_neg (show ¬ nI 2 = 1 by decide), if_pos (show nI 2 = 2 from rfl), letT_eq, List.length_cons, hX_pop hl, letT_eq, hX_push hl, r1]
    have := w m (s + 1) (upd ρ st.length (1 - x)) (rws_push r2 _) (by rw [List.length_cons]; omega) (by omega) (by omega) hm
    rw [List.length_cons] at this
    exact this
  · obtain ⟨r1, r2⟩ := rws_pop hr
    rw [if_neg (show ¬ nI 3 = 0 by decide), if_neg (show ¬ nI 3 = 1 by decide), if_neg (show ¬ nI 3 = 2 by decide), letT_eq, if_pos (show nI 3 = 3 from rfl), letT_eq, List.length_cons, hX_pop hl, if_neg (show ¬ nI 3 = 4 by decide), r1, if_pos x0, letT_eq, hX_push hl]
    have := w m (s + 1) (upd ρ st.length x) (rws_push r2 _) (by rw [List.length_cons]; omega) (by omega) (by omega) hm
    rw [List.length_cons] at this
    exact this
  · obtain ⟨r1, r2⟩ := rws_pop hr
    rw [if_neg (show ¬ nI 3 = 0 by decide), if_neg (show ¬ nI 3 = 1 by decide), if_neg (show ¬ nI 3 = 2 by decide), letT_eq, if_pos (show nI 3 = 3 from rfl), letT_eq, List.length_cons, hX_pop hl, if_neg (show ¬ nI 3 = 4 by decide), r1, if_neg x0]
    exact w m (s + 1) ρ r2 (by omega) (by omega) (by omega) hm
  · obtain ⟨r1, r2⟩ := rws_pop hr
    rw [if_neg (show ¬ nI 4 = 0 by decide), if_neg (show ¬ nI 4 = 1 by decide), if_neg (show ¬ nI 4 = 2 by decide), letT_eq, if_neg (show ¬ nI 4 = 3 by decide), if_pos (show nI 4 = 4 from rfl), letT_eq, List.length_cons, hX_pop hl, if_pos (show nI 4 = 4 from rfl), r1, if_pos x0, letT_eq, hX_push hl]
    have := w m (s + 1) (upd ρ st.length x) (rws_push r2 _) (by rw [List.length_cons]; omega) (by omega) (by omega) hm
    rw [List.length_cons] at this
    exact this
  · obtain ⟨r1, r2⟩ := rws_pop hr
    rw [if_neg (show ¬ nI 4 = 0 by decide), if_neg (show ¬ nI 4 = 1 by decide), if_neg (show ¬ nI 4 = 2 by decide), letT_eq, if_neg (show ¬ nI 4 = 3 by decide), if_pos (show nI 4 = 4 from rfl), letT_eq, List.length_cons, hX_pop hl, if_pos (show nI 4 = 4 from rfl), r1, if_neg x0]
    exact w m (s + 1) ρ r2 (by omega) (by omega) (by omega) hm
  · obtain ⟨r1, r2⟩ := rws_pop hr
    obtain ⟨r3, r4⟩ := rws_pop r2
    have ne : ∀ j, j < 5 → ¬ nI (5 + i) = nI j := fun j hj => ne_lit (by omega) (by omega) (by omega)
    rw [if_neg (show ¬ nI (5 + i) = 0 from ne 0 (by decide)), if_neg (show ¬ nI (5 + i) = 1 from ne 1 (by decide)), if_neg (show ¬ nI (5 + i) = 2 from ne 2 (by decide)), letT_eq, if_neg (show ¬ nI (5 + i) = 3 from ne 3 (by decide)), if_neg (show ¬ nI (5 + i) = 4 from ne 4 (by decide)), letT_eq, List.length_cons, List.length_cons, hX_pop (by omega), letT_eq, hX_pop (by omega)]
    rw [List.length_cons] at r1
    dsimp only
    rw [r1, r3, show (5 : Int32) = nI 5 from rfl, nI_sub (show 5 ≤ 5 + i by omega), Nat.add_sub_cancel_left, letT_eq, joined_yes d, letT_eq]
    dsimp only
    obtain ⟨m', rfl⟩ : ∃ m', m = m' + 1 := ⟨m - 1, by omega⟩
    show ∃ u v ρ', fX4_run_l15b (fX4_run_l15 kX (nI to) m') kX (nI to) (nI (p + 1)) (nI (s + 1)) (fX4_push 0 (sI (hX h st.length ρ) 42 3 1)) = _
    have pe : fX4_push 0 (sI (hX h st.length ρ) 42 3 1) = sR (sI (sI h 42 3 1) 42 4 (nI (st.length + 1))) 48 (upd ρ st.length 0) := by
      have e1 : sI (hX h st.length ρ) 42 3 1 = sR (sI (sI h 42 3 1) 42 4 (nI st.length)) 48 ρ := by
        unfold hX
        rw [← sR_sI_comm (by decide)]
        congr 1
        rw [sI_sR, sI_sR, sI_sR, sI_sR, sI_sR]
        rw [sR_at, sR_sR, sR_at, sR_sR, sR_at, sR_sR]
        congr 1
        funext j
        unfold upd
        by_cases j3 : j = 3
        · simp [j3]
        · by_cases j4 : j = 4
          · simp [j4]
          · simp [j3, j4]
      rw [e1]
      unfold fX4_push
      have f4 : ∀ k ρ', (sR (sI (sI h 42 3 1) 42 4 (nI k)) 48 ρ').1 42 4 = nI k := fun k ρ' => by rw [sR_ne _ _ (by decide), sI_at, upd_at]
      rw [letT_eq, letT_eq, f4, put_in (show st.length < aln 48 by show _ < 32; omega), sI_R, f4, nI_1, ← sR_sI_comm (by decide), sI_sI]
    rw [pe]
    unfold fX4_run_l15b
    have f3 : (sR (sI (sI h 42 3 1) 42 4 (nI (st.length + 1))) 48 (upd ρ st.length 0)).1 42 3 = 1 := by rw [sR_ne _ _ (by decide), sI_at, upd_ne _ _ (by decide), sI_at, upd_at]
    rw [f3, if_neg d10', ite_self, ite_self]
    unfold kX
    rw [f3, if_neg d10', r0]
    exact ⟨_, _, _, rfl⟩
  · obtain ⟨r1, r2⟩ := rws_pop hr
    obtain ⟨r3, r4⟩ := rws_pop r2
    have ne : ∀ j, j < 5 → ¬ nI (5 + i) = nI j := fun j hj => ne_lit (by omega) (by omega) (by omega)
    rw [if_neg (show ¬ nI (5 + i) = 0 from ne 0 (by decide)), if_neg (show ¬ nI (5 + i) = 1 from ne 1 (by decide)), if_neg (show ¬ nI (5 + i) = 2 from ne 2 (by decide)), letT_eq, if_neg (show ¬ nI (5 + i) = 3 from ne 3 (by decide)), if_neg (show ¬ nI (5 + i) = 4 from ne 4 (by decide)), letT_eq, List.length_cons, List.length_cons, hX_pop (by omega), letT_eq, hX_pop (by omega)]
    rw [List.length_cons] at r1
    dsimp only
    rw [r1, r3, show (5 : Int32) = nI 5 from rfl, nI_sub (show 5 ≤ 5 + i by omega), Nat.add_sub_cancel_left, letT_eq, joined_no hi d, letT_eq, hX_push (by omega)]
    have := w m (s + 1) (upd ρ st.length (jn i x y)) (rws_push r4 _) (by rw [List.length_cons]; omega) (by omega) (by omega) hm
    rw [List.length_cons] at this
    exact this
theorem WX_end {h : AH} {to : Nat} {x : Int32} (hto : to ≤ 200) : WX4 h to to [x] x := by
  intro n s ρ hr hl hs hpt hn
  obtain ⟨m, rfl⟩ : ∃ m, n = m + 1 := ⟨n - 1, by omega⟩
  show ∃ u v ρ', fX4_run_l15b (fX4_run_l15 kX (nI to) m) kX (nI to) (nI to) (nI s) (hX h 1 ρ) = _
  unfold fX4_run_l15b
  obtain ⟨r1, -⟩ := rws_pop hr
  have e : kX (hX h 1 ρ) = some (x, hX h 0 ρ) := by
    unfold kX
    rw [hX_r3, if_pos rfl, letT_eq, hX_pop (by decide)]
    have : ρ 0 = x := r1
    rw [this]
  rw [if_neg (nI_nlt (Nat.le_refl _) (by omega)), ite_self, e]
  exact ⟨_, _, _, rfl⟩
theorem Sgm.evX {A : Cd} {code : Rw} {a b d : Nat} {v : Rw → Option Int32} (s : Seg A a b d v) (hd : d ≤ 32) (hb : b ≤ 200) (hab : a ≤ b) (hc : ∀ p op num, p < 200 → A[p]? = some (op, num) → code p = nI (16 * num + op) ∧ op < 16 ∧ num < 100000) : EvX code (nI a) (nI b) (fun f => (v f).getD 0) := by
  intro h hE
  have m := WX_mch (h := h) (A := A) (to := b) (a := a) (b := b) hb (Nat.le_refl _) (fun p op num hp e => by rw [hE p hp]; exact hc p op num hp e)
  have w : WX4 h b a [] ((v (h.1 47)).getD 0) := by
    obtain ⟨t1, t2⟩ := s (h.1 47) (WX4 h b) m [] ((v (h.1 47)).getD 0) (by simpa using hd)
    cases e : v (h.1 47) with
    | none => rw [e] at t2; exact t2 rfl rfl
    | some x => rw [e] at t1; exact t1 x rfl (WX_end hb)
  obtain ⟨u, z, ρ', e⟩ := w fuel0 0 (h.1 48) (rws_nil _) (by decide) (Nat.zero_le _) hab (by have := fuel_big; omega)
  refine ⟨u, z, ρ', ?_⟩
  unfold fX4_run
  rw [letT_eq, letT_eq]
  have e0 : sI (sI h 42 3 0) 42 4 0 = hX h 0 (h.1 48) := by
    unfold hX
    have : (sI (sI h 42 3 0) 42 4 (nI 0)).1 48 = h.1 48 := by rw [sI_ne _ _ _ (by decide), sI_ne _ _ _ (by decide)]
    rw [← this, sR_self]
    rfl
  rw [e0]
  exact e
