/-! ===== the model reads a law ===== -/
def LMf (h g : AH) : Prop := (∀ c, c ≠ 75 → c ≠ 91 → c ≠ 92 → g.1 c = h.1 c) ∧ (∀ j, j ≠ 11 → j ≠ 13 → j ≠ 14 → j ≠ 24 → j ≠ 25 → j ≠ 26 → g.1 75 j = h.1 75 j) ∧ g.2 = h.2
theorem LMf.rf {h : AH} : LMf h h := ⟨fun _ _ _ _ => rfl, fun _ _ _ _ _ _ _ => rfl, rfl⟩
theorem LMf.tr {h g k : AH} (a : LMf h g) (b : LMf g k) : LMf h k := ⟨fun c h1 h2 h3 => (b.1 c h1 h2 h3).trans (a.1 c h1 h2 h3), fun j h1 h2 h3 h4 h5 h6 => (b.2.1 j h1 h2 h3 h4 h5 h6).trans (a.2.1 j h1 h2 h3 h4 h5 h6), b.2.2.trans a.2.2⟩
theorem LMf.at {h : AH} {j : Nat} {v : Int32} (hj : j = 11 ∨ j = 13 ∨ j = 14 ∨ j = 24 ∨ j = 25 ∨ j = 26) : LMf h (sI h 75 j v) := ⟨fun c h1 _ _ => sI_ne _ _ _ h1, fun i _ _ _ _ _ _ => by rw [sI_at, upd_ne _ _ (by omega)], rfl⟩
theorem LMf.cell {h : AH} {c j : Nat} {v : Int32} (hc : c = 91 ∨ c = 92) : LMf h (sI h c j v) := ⟨fun d _ h2 h3 => sI_ne _ _ _ (by omega), fun i _ _ _ _ _ _ => by rw [sI_ne _ _ _ (by omega)], rfl⟩
theorem MF1.lm {h g : AH} (a : MF1 h g) : LMf h g := ⟨fun c h1 _ _ => a.1 c h1, fun j h1 h2 h3 _ _ _ => a.2.1 j h1 h2 h3, a.2.2⟩
abbrev Wt : Type := List (Nat × Nat)
def CodM (h : AH) (A : Cd) : Prop := h.1 75 25 = nI A.length ∧ ∀ i op num, A[i]? = some (op, num) → h.1 91 i = nI (1048576 * mop op + num) ∧ op < 13 ∧ num < 100000
def WtM (h : AH) (W : Wt) : Prop := h.1 75 26 = nI W.length ∧ ∀ i a b, W[i]? = some (a, b) → h.1 92 i = nI (1048576 * a + b) ∧ a < 15 ∧ b < 1000
def St5 (B : Nat → Int32) (n p : Nat) (A : Cd) (W : Wt) (o : Nat) (h : AH) : Prop := Tm B n h ∧ h.1 75 11 = nI p ∧ p ≤ n ∧ CodM h A ∧ WtM h W ∧ h.1 75 24 = nI o
section ModelLaw
variable {B : Nat → Int32} {n : Nat}
theorem Tm.frL {h g : AH} (f : LMf h g) (t : Tm B n h) : Tm B n g := by
  unfold Tm
  rw [f.2.1 12 (by decide) (by decide) (by decide) (by decide) (by decide) (by decide), f.1 82 (by decide) (by decide) (by decide)]
  exact t
/-- a place of the model's own, but for code and what waits -/
theorem St5.set {p p' o o' : Nat} {A : Cd} {W : Wt} {h g : AH} (s : St5 B n p A W o h) (hp : p' ≤ n) (f : LMf h g) (e11 : g.1 75 11 = nI p') (e24 : g.1 75 24 = nI o') (e25 : g.1 75 25 = h.1 75 25) (e26 : g.1 75 26 = h.1 75 26) (e91 : g.1 91 = h.1 91) (e92 : g.1 92 = h.1 92) : St5 B n p' A W o' g := by
  obtain ⟨s1, s2, s3, s4, s5, s6⟩ := s
  refine ⟨s1.frL f, e11, hp, ?_, ?_, e24⟩
  · unfold CodM; rw [e25, e91]; exact s4
  · unfold WtM; rw [e26, e92]; exact s5
theorem St5.place {p q o : Nat} {A : Cd} {W : Wt} {h : AH} (s : St5 B n p A W o h) (hq : q ≤ n) : St5 B n q A W o (sI h 75 11 (nI q)) := by
  refine s.set hq (LMf.at (by decide)) (by rw [sI_at, upd_at]) (by rw [sI_at, upd_ne _ _ (by decide)]; exact s.2.2.2.2.2) (by rw [sI_at, upd_ne _ _ (by decide)]) (by rw [sI_at, upd_ne _ _ (by decide)]) (sI_ne _ _ _ (by decide)) (sI_ne _ _ _ (by decide))
theorem St5.opn {p o o' : Nat} {A : Cd} {W : Wt} {h : AH} (s : St5 B n p A W o h) : St5 B n p A W o' (sI h 75 24 (nI o')) := by
  refine s.set s.2.2.1 (LMf.at (by decide)) (by rw [sI_at, upd_ne _ _ (by decide)]; exact s.2.1) (by rw [sI_at, upd_at]) (by rw [sI_at, upd_ne _ _ (by decide)]) (by rw [sI_at, upd_ne _ _ (by decide)]) (sI_ne _ _ _ (by decide)) (sI_ne _ _ _ (by decide))
theorem St5.num {p o : Nat} {A : Cd} {W : Wt} {h : AH} {v : Int32} (s : St5 B n p A W o h) : St5 B n p A W o (sI h 75 14 v) := by
  refine s.set s.2.2.1 (LMf.at (by decide)) (by rw [sI_at, upd_ne _ _ (by decide)]; exact s.2.1) (by rw [sI_at, upd_ne _ _ (by decide)]; exact s.2.2.2.2.2) (by rw [sI_at, upd_ne _ _ (by decide)]) (by rw [sI_at, upd_ne _ _ (by decide)]) (sI_ne _ _ _ (by decide)) (sI_ne _ _ _ (by decide))
theorem getw {W : Wt} {w : Nat × Nat} : (W ++ [w])[W.length]? = some w := by rw [List.getElem?_append_right (Nat.le_refl _), Nat.sub_self]; rfl
theorem lenw {W : Wt} {w : Nat × Nat} : (W ++ [w]).length = W.length + 1 := by rw [List.length_append]; rfl
theorem St5.pop {p o : Nat} {A : Cd} {W : Wt} {w : Nat × Nat} {h : AH} (s : St5 B n p A (W ++ [w]) o h) : St5 B n p A W o (sI h 75 26 (h.1 75 26 - 1)) ∧ LMf h (sI h 75 26 (h.1 75 26 - 1)) := by
  obtain ⟨s1, s2, s3, s4, s5, s6⟩ := s
  have f : LMf h (sI h 75 26 (h.1 75 26 - 1)) := LMf.at (by decide)
  refine ⟨⟨s1.frL f, by rw [sI_at, upd_ne _ _ (by decide)]; exact s2, s3, ?_, ⟨?_, fun i a b hi => ?_⟩, by rw [sI_at, upd_ne _ _ (by decide)]; exact s6⟩, f⟩
  · unfold CodM; rw [sI_at, upd_ne _ _ (by decide), sI_ne _ _ _ (by decide)]; exact s4
  · rw [sI_at, upd_at, s5.1, lenw, nI_sub1 (by omega), Nat.add_sub_cancel]
  · rw [sI_ne _ _ _ (by decide)]
    have li := (List.getElem?_eq_some_iff.mp hi).1
    exact s5.2 i a b (by rw [List.getElem?_append_left li]; exact hi)
theorem St5.push {p o a b : Nat} {A : Cd} {W : Wt} {h : AH} (s : St5 B n p A W o h) (ha : a < 15) (hb : b < 1000) : St5 B n p A (W ++ [(a, b)]) o (sI (sI h 92 W.length (nI (1048576 * a + b))) 75 26 (nI (W.length + 1))) ∧ LMf h (sI (sI h 92 W.length (nI (1048576 * a + b))) 75 26 (nI (W.length + 1))) := by
  obtain ⟨s1, s2, s3, s4, s5, s6⟩ := s
  have f : LMf h (sI (sI h 92 W.length (nI (1048576 * a + b))) 75 26 (nI (W.length + 1))) := (LMf.cell (by decide)).tr (LMf.at (by decide))
  have k : ∀ j, j ≠ 26 → (sI (sI h 92 W.length (nI (1048576 * a + b))) 75 26 (nI (W.length + 1))).1 75 j = h.1 75 j := fun j hj => by rw [sI_at, upd_ne _ _ hj, sI_ne _ _ _ (by decide)]
  refine ⟨⟨s1.frL f, by rw [k 11 (by decide)]; exact s2, s3, ?_, ⟨?_, fun i x y hi => ?_⟩, by rw [k 24 (by decide)]; exact s6⟩, f⟩
  · unfold CodM; rw [k 25 (by decide), sI_ne _ _ _ (by decide), sI_ne _ _ _ (by decide)]; exact s4
  · rw [sI_at, upd_at, lenw]
  · rw [sI_ne _ _ _ (by decide), sI_at]
    by_cases lt : i < W.length
    · rw [List.getElem?_append_left lt] at hi
      rw [upd_ne _ _ (by omega)]
      exact s5.2 i x y hi
    · have li := (List.getElem?_eq_some_iff.mp hi).1
      rw [lenw] at li
      have : i = W.length := by omega
      subst this
      rw [getw] at hi
      injection Option.some.inj hi with h1 h2
      rw [upd_at, ← h1, ← h2]
      exact ⟨rfl, ha, hb⟩
theorem notes_eq {p o op k m : Nat} {A : Cd} {W : Wt} {h : AH} (s : St5 B n p A W o h) (hA : A.length < 220) (ho : op < 13) (hk : k < 100000) (hm : m = mop op) : ∃ g, fX12_notes (nI m) (nI k) h = some g ∧ St5 B n p (A ++ [(op, k)]) W o g ∧ LMf h g ∧ g.1 75 13 = h.1 75 13 ∧ g.1 75 14 = h.1 75 14 := by
  obtain ⟨s1, s2, s3, s4, s5, s6⟩ := s
  have e25 : h.1 75 25 = nI A.length := s4.1
  have f : LMf h (sI (sI h 91 A.length (nI (1048576 * m + k))) 75 25 (nI (A.length + 1))) := (LMf.cell (by decide)).tr (LMf.at (by decide))
  have kk : ∀ j, j ≠ 25 → (sI (sI h 91 A.length (nI (1048576 * m + k))) 75 25 (nI (A.length + 1))).1 75 j = h.1 75 j := fun j hj => by rw [sI_at, upd_ne _ _ hj, sI_ne _ _ _ (by decide)]
  refine ⟨sI (sI h 91 A.length (nI (1048576 * m + k))) 75 25 (nI (A.length + 1)), ?_, ⟨s1.frL f, by rw [kk 11 (by decide)]; exact s2, s3, ⟨?_, fun i x y hi => ?_⟩, ?_, by rw [kk 24 (by decide)]; exact s6⟩, f, kk 13 (by decide), kk 14 (by decide)⟩
  · unfold fX12_notes
    rw [e25, if_neg (gd hA (by decide)), nI_clamp (by omega), show (1048576 : Int32) = nI 1048576 from rfl, nI_mul, nI_add, letT_eq, letT_eq]
    have : (sI h 91 A.length (nI (1048576 * m + k))).1 75 25 = nI A.length := by rw [sI_ne _ _ _ (by decide)]; exact e25
    rw [this, nI_1]
  · rw [sI_at, upd_at, len1]
  · rw [sI_ne _ _ _ (by decide), sI_at]
    by_cases lt : i < A.length
    · rw [get1 lt] at hi
      rw [upd_ne _ _ (by omega)]
      exact s4.2 i x y hi
    · have li := (List.getElem?_eq_some_iff.mp hi).1
      rw [len1] at li
      have : i = A.length := by omega
      subst this
      rw [lastAt] at hi
      injection Option.some.inj hi with h1 h2
      rw [upd_at, ← h1, ← h2, hm]
      exact ⟨rfl, ho, hk⟩
  · unfold WtM; rw [kk 26 (by decide), sI_ne _ _ _ (by decide), sI_ne _ _ _ (by decide)]; exact s5
theorem waitTop_nil {p o : Nat} {A : Cd} {h : AH} (s : St5 B n p A [] o h) : fX12_waitTop h = some (-1) := by
  unfold fX12_waitTop
  rw [if_pos (show h.1 75 26 = 0 from s.2.2.2.2.1.1)]
theorem waitTop_eq {p o a b : Nat} {A : Cd} {W : Wt} {h : AH} (s : St5 B n p A (W ++ [(a, b)]) o h) (hW : W.length < 220) : fX12_waitTop h = some (nI a) := by
  obtain ⟨w1, w2⟩ := s.2.2.2.2.1
  obtain ⟨v1, v2, v3⟩ := w2 W.length a b getw
  unfold fX12_waitTop
  rw [w1, lenw, if_neg (show ¬ nI (W.length + 1) = 0 from ne_lit (j := 0) (by omega) (by decide) (by omega)), nI_sub1 (by omega), Nat.add_sub_cancel, if_neg (gd hW (by decide)), nI_clamp (by omega), v1, (mword (by omega) (by omega)).1]
/-- what stands below the signs of a sum -/
def topOk (W : Wt) : Prop := W = [] ∨ ∃ W' a b, W = W' ++ [(a, b)] ∧ 10 ≤ a
def sW (S : Option Nat) : Wt := match S with | none => [] | some i => [(i + 2, 0)]
theorem sW_len (S : Option Nat) : (sW S).length ≤ 1 := by
  cases S with
  | none => exact Nat.zero_le _
  | some i => exact Nat.le_refl _
/-- one sign is closed -/
theorem cs_one {p o i : Nat} {A : Cd} {W : Wt} {h : AH} (s : St5 B n p A (W ++ [(i + 2, 0)]) o h) (hW : W.length < 220) (hA : A.length < 220) (hi : i < 8) : ∃ g, (fX12_notes (nI (i + 2)) 0 h).bind (fun b6 => letT (sI b6 75 26 ((b6.1 75 26) - (1 : Int32))) (fun g8 => some g8)) = some g ∧ St5 B n p (A ++ [(5 + i, 0)]) W o g ∧ LMf h g := by
  obtain ⟨g, e, s1, f1, -⟩ := notes_eq (op := 5 + i) (k := 0) (m := i + 2) s hA (by omega) (by decide) (by unfold mop; rw [if_neg (by omega), if_neg (by omega), if_neg (by omega), if_neg (by omega), if_neg (by omega)]; omega)
  rw [show nI 0 = 0 from rfl] at e
  rw [e, ob, letT_eq]
  obtain ⟨s2, f2⟩ := s1.pop
  exact ⟨_, rfl, s2, f1.tr f2⟩
theorem cs_go {p o i : Nat} {A : Cd} {W : Wt} {h : AH} {x1 : Int32} {m : Nat} (s : St5 B n p A (W ++ [(i + 2, 0)]) o h) (hW : W.length < 220) (hA : A.length < 220) (hi : 2 ≤ i ∧ i ≤ 4 ∨ i ≤ 1 ∧ ¬ x1 = 0) : ∃ g, fX12_closesSums_l0 x1 (m + 1) h = fX12_closesSums_l0 x1 m g ∧ fX12_closesSums x1 h = fX12_closesSums_l0 x1 fuel0 g ∧ St5 B n p (A ++ [(5 + i, 0)]) W o g ∧ LMf h g := by
  have wt := waitTop_eq s hW
  obtain ⟨g, e, s1, f1⟩ := cs_one s hW hA (by omega)
  have e' : ∀ (r : AH → Option AH), (fX12_notes (nI (i + 2)) 0 h).bind (fun b14 => letT (sI b14 75 26 ((b14.1 75 26) - (1 : Int32))) (fun g16 => r g16)) = r g := fun r => by
    cases en : fX12_notes (nI (i + 2)) 0 h with
    | none => rw [en] at e; cases e
    | some b =>
      rw [en, ob, letT_eq] at e
      rw [ob, letT_eq, Option.some.inj e]
  have body : ∀ (r : AH → Option AH), (fX12_waitTop h).bind (fun b9 => letT ((fX12_waitTop h).bind (fun b12 => (fX12_notes b12 (0 : Int32) h).bind (fun b14 => letT (sI b14 75 26 ((b14.1 75 26) - (1 : Int32))) (fun g16 => r g16)))) (fun J11 => letT (if x1 = 0 then some h else (fX12_waitTop h).bind (fun b19 => if b19 = (2 : Int32) then J11 else (fX12_waitTop h).bind (fun b22 => if b22 = (3 : Int32) then J11 else some h))) (fun J17 => if b9 < (4 : Int32) then J17 else (fX12_waitTop h).bind (fun b26 => if (6 : Int32) < b26 then J17 else J11)))) = r g := fun r => by
    rw [wt]
    simp only [ob, letT_eq]
    have er := e' r
    simp only [letT_eq] at er
    rw [er]
    rcases hi with ⟨h1, h2⟩ | ⟨h1, h2⟩
    · rw [if_neg (show ¬ nI (i + 2) < 4 from nI_nlt (b := 4) (by omega) (by omega)), if_neg (show ¬ (6 : Int32) < nI (i + 2) from nI_nlt (a := 6) (by omega) (by omega))]
    · rw [if_pos (show nI (i + 2) < 4 from nI_lt (b := 4) (by omega) (by decide)), if_neg h2]
      by_cases i0 : i = 0
      · rw [if_pos (show nI (i + 2) = 2 by rw [i0]; rfl)]
      · have i1 : i = 1 := by omega
        rw [if_neg (show ¬ nI (i + 2) = 2 by rw [i1]; decide), if_pos (show nI (i + 2) = 3 by rw [i1]; rfl)]
  refine ⟨g, body (fX12_closesSums_l0 x1 m), ?_, s1, f1⟩
  unfold fX12_closesSums
  exact body (fX12_closesSums_l0 x1 fuel0)
theorem cs_stop {p o : Nat} {A : Cd} {W : Wt} {h : AH} {x1 : Int32} {m : Nat} (s : St5 B n p A W o h) (hW : W.length < 220) (hw : topOk W ∨ x1 = 0 ∧ ∃ W' i, W = W' ++ [(i + 2, 0)] ∧ i ≤ 1) : fX12_closesSums_l0 x1 (m + 1) h = some h ∧ fX12_closesSums x1 h = some h := by
  have top : ∃ c : Int32, fX12_waitTop h = some c ∧ ((c = -1 ∨ ∃ a, a < 15 ∧ 10 ≤ a ∧ c = nI a) ∨ x1 = 0 ∧ (c = 2 ∨ c = 3)) := by
    rcases hw with (rfl | ⟨W', a, b, rfl, h10⟩) | ⟨x0, W', i, rfl, i1⟩
    · exact ⟨-1, waitTop_nil s, Or.inl (Or.inl rfl)⟩
    · have a15 := (s.2.2.2.2.1.2 W'.length a b getw).2.1
      rw [lenw] at hW
      exact ⟨nI a, waitTop_eq s (by omega), Or.inl (Or.inr ⟨a, a15, h10, rfl⟩)⟩
    · rw [lenw] at hW
      refine ⟨nI (i + 2), waitTop_eq s (by omega), Or.inr ⟨x0, ?_⟩⟩
      have : i = 0 ∨ i = 1 := by omega
      rcases this with rfl | rfl
      · exact Or.inl rfl
      · exact Or.inr rfl
  obtain ⟨c, wt, hc⟩ := top
  have body : ∀ (r : AH → Option AH), (fX12_waitTop h).bind (fun b9 => letT ((fX12_waitTop h).bind (fun b12 => (fX12_notes b12 (0 : Int32) h).bind (fun b14 => letT (sI b14 75 26 ((b14.1 75 26) - (1 : Int32))) (fun g16 => r g16)))) (fun J11 => letT (if x1 = 0 then some h else (fX12_waitTop h).bind (fun b19 => if b19 = (2 : Int32) then J11 else (fX12_waitTop h).bind (fun b22 => if b22 = (3 : Int32) then J11 else some h))) (fun J17 => if b9 < (4 : Int32) then J17 else (fX12_waitTop h).bind (fun b26 => if (6 : Int32) < b26 then J17 else J11)))) = some h := fun r => by
    rw [wt]
    simp only [ob, letT_eq]
    rcases hc with (rfl | ⟨a, a15, a10, rfl⟩) | ⟨x0, rfl | rfl⟩
    · rw [if_pos (show (-1 : Int32) < 4 by decide), if_neg (show ¬ (-1 : Int32) = 2 by decide), if_neg (show ¬ (-1 : Int32) = 3 by decide), ite_self]
    · rw [if_neg (show ¬ nI a < 4 from nI_nlt (b := 4) (by omega) (by omega)), if_pos (show (6 : Int32) < nI a from nI_lt (a := 6) (by omega) (by omega)), if_neg (show ¬ nI a = 2 from ne_lit (j := 2) (by omega) (by decide) (by omega)), if_neg (show ¬ nI a = 3 from ne_lit (j := 3) (by omega) (by decide) (by omega)), ite_self]
    · rw [if_pos (show (2 : Int32) < 4 by decide), if_pos x0]
    · rw [if_pos (show (3 : Int32) < 4 by decide), if_pos x0]
  refine ⟨body (fX12_closesSums_l0 x1 m), ?_⟩
  unfold fX12_closesSums
  exact body (fX12_closesSums_l0 x1 fuel0)
/-- all signs of a sum closed -/
theorem cs_all {p o : Nat} {A : Cd} {V : Wt} {S Mu : Option Nat} {h : AH} (s : St5 B n p A (V ++ sW S ++ sW Mu) o h) (hV : V.length + 2 < 220) (hA : A.length + 2 < 220) (tV : topOk V) (hS : ∀ i, S = some i → i ≤ 1) (hM : ∀ i, Mu = some i → 2 ≤ i ∧ i ≤ 4) : ∃ g, fX12_closesSums 1 h = some g ∧ St5 B n p (A ++ sOp Mu ++ sOp S) V o g ∧ LMf h g := by
  obtain ⟨m, hm⟩ := fuel_plus 2 (by decide)
  cases Mu with
  | none =>
    have e1 : V ++ sW S ++ sW none = V ++ sW S := List.append_nil _
    have e2 : A ++ sOp none ++ sOp S = A ++ sOp S := by rw [show A ++ sOp none = A from List.append_nil _]
    rw [e1] at s
    rw [e2]
    cases S with
    | none =>
      have e3 : V ++ sW none = V := List.append_nil _
      have e4 : A ++ sOp none = A := List.append_nil _
      rw [e3] at s
      rw [e4]
      exact ⟨h, (cs_stop (m := 0) s (by omega) (Or.inl tV)).2, s, .rf⟩
    | some i =>
      obtain ⟨g, -, e, s1, f1⟩ := cs_go (m := 0) (x1 := 1) s (by omega) (by omega) (Or.inr ⟨hS i rfl, by decide⟩)
      rw [e, hm]
      exact ⟨g, (cs_stop (x1 := 1) (m := m + 1) s1 (by omega) (Or.inl tV)).1, s1, f1⟩
  | some j =>
    have lS := sW_len S
    have lV : (V ++ sW S).length ≤ V.length + 1 := by rw [List.length_append]; omega
    obtain ⟨g, -, e, s1, f1⟩ := cs_go (m := 0) (x1 := 1) s (by omega) (by omega) (Or.inl (hM j rfl))
    rw [e, hm]
    cases S with
    | none =>
      have e3 : V ++ sW none = V := List.append_nil _
      rw [e3] at s1
      have e4 : A ++ sOp (some j) ++ sOp none = A ++ [(5 + j, 0)] := List.append_nil _
      rw [e4]
      exact ⟨g, (cs_stop (x1 := 1) (m := m + 1) s1 (by omega) (Or.inl tV)).1, s1, f1⟩
    | some i =>
      obtain ⟨g2, e2, -, s2, f2⟩ := cs_go (m := m + 1) (x1 := 1) s1 (by omega) (by rw [len1]; omega) (Or.inr ⟨hS i rfl, by decide⟩)
      rw [e2]
      exact ⟨g2, (cs_stop (x1 := 1) (m := m) s2 (by omega) (Or.inl tV)).1, s2, f1.tr f2⟩
theorem cs_mul {p o : Nat} {A : Cd} {V : Wt} {S Mu : Option Nat} {h : AH} (s : St5 B n p A (V ++ sW S ++ sW Mu) o h) (hV : V.length + 2 < 220) (hA : A.length + 2 < 220) (tV : topOk V) (hS : ∀ i, S = some i → i ≤ 1) (hM : ∀ i, Mu = some i → 2 ≤ i ∧ i ≤ 4) : ∃ g, fX12_closesSums 0 h = some g ∧ St5 B n p (A ++ sOp Mu) (V ++ sW S) o g ∧ LMf h g := by
  obtain ⟨m, hm⟩ := fuel_plus 1 (by decide)
  have lS := sW_len S
  have lV : (V ++ sW S).length ≤ V.length + 1 := by rw [List.length_append]; omega
  have tp : topOk (V ++ sW S) ∨ (0 : Int32) = 0 ∧ ∃ W' i, V ++ sW S = W' ++ [(i + 2, 0)] ∧ i ≤ 1 := by
    cases S with
    | none => exact Or.inl (by rw [show V ++ sW none = V from List.append_nil _]; exact tV)
    | some i => exact Or.inr ⟨rfl, V, i, rfl, hS i rfl⟩
  cases Mu with
  | none =>
    have e1 : V ++ sW S ++ sW none = V ++ sW S := List.append_nil _
    have e2 : A ++ sOp none = A := List.append_nil _
    rw [e1] at s
    rw [e2]
    exact ⟨h, (cs_stop (m := 0) s (by omega) tp).2, s, .rf⟩
  | some j =>
    obtain ⟨g, -, e, s1, f1⟩ := cs_go (m := 0) (x1 := 0) s (by omega) (by omega) (Or.inl (hM j rfl))
    rw [e, hm]
    exact ⟨g, (cs_stop (m := m) s1 (by omega) tp).1, s1, f1⟩
end ModelLaw
