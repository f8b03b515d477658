/-! ===== unread ===== -/
def unr (h : AH) (N M n : Nat) (L : Nat → Int32) (C : Nat → Rw → Int32) (P : Int32) (he : Nat) (s : Int32) : Int32 := if bt P he then s &&& (nI (bs (rds h N M n L C (nI he)) N) ^^^ (-1)) else s
theorem areHearers_no {p : Int32} {g : AH} (h : p < 0 ∨ (1023 : Int32) < p) : fX11_areHearers p g = 0 := by
  unfold fX11_areHearers
  by_cases a : p < 0
  · rw [if_pos a]
  · rw [if_neg a, if_pos (h.resolve_left a)]
theorem areHearers_yes {p : Int32} {g : AH} (h1 : ¬ p < 0) (h2 : ¬ (1023 : Int32) < p) : fX11_areHearers p g = 1 := by
  unfold fX11_areHearers
  rw [if_neg h1, if_neg h2]
theorem st_unread (p : Int32) {h : AH} (I : Inv h) : St (xo_unread p) (mo_unread p) h := by
  obtain ⟨⟨N, M, x, H⟩, -, -, n, hL⟩ := id I
  obtain ⟨L, C, V, X⟩ := hL.x
  by_cases bad : p < 0 ∨ (1023 : Int32) < p
  · refine St.ro (r := -1) I ?_ .rf ?_ .rf
    · unfold xo_unread fX11_unread
      rw [areHearers_no bad, if_pos rfl]
    · unfold mo_unread fX12_unread
      rw [in_no bad, if_pos rfl]
  have c1 : ¬ p < 0 := fun a => bad (Or.inl a)
  have c2 : ¬ (1023 : Int32) < p := fun a => bad (Or.inr a)
  have kX : ∃ g', fX11_unread_l22 p fuel0 (jshl 1 (nI N) - 1) 0 h = some (itf (unr h N M n L C p) 0 10 (jshl 1 (nI N) - 1), g') ∧ Core h g' := by
    obtain ⟨s, e, es, fx⟩ := for_ex (F := fun m xx (s : Int32 × AH) => fX11_unread_l22 p m s.1 xx s.2) (fun s => some (s.1, s.2)) 10 (by decide) (fun i s => s.1 = itf (unr h N M n L C p) 0 i (jshl 1 (nI N) - 1) ∧ Core h s.2) (fun m i s hi hI => by
        obtain ⟨a, g⟩ := s
        obtain ⟨ea, cg⟩ := hI
        dsimp only at ea cg
        show ∃ s', fX11_unread_l22b (fX11_unread_l22 p m) p a (nI i) g = _ ∧ _
        unfold fX11_unread_l22b
        obtain ⟨g1, e1, f1⟩ := linesReadBy_eq (he := nI i) H X cg
        rw [if_pos (show nI i < 10 from nI_lt (b := 10) hi (by decide)), isIn_bt _ (show i < 32 by omega), e1, ob, nI_1, itf_last, ← ea, Nat.zero_add]
        dsimp only [letT]
        unfold unr
        cases bt p i with
        | false =>
          rw [if_pos ite_f0]
          exact ⟨(a, g), rfl, rfl, cg⟩
        | true =>
          rw [if_neg ite_t0]
          exact ⟨(_, g1), rfl, rfl, cg.tr f1.core⟩) (fun m s hI => by
        show fX11_unread_l22b (fX11_unread_l22 p m) p s.1 (nI 10) s.2 = _
        unfold fX11_unread_l22b
        rw [if_neg (by decide)]) fuel0 0 (jshl 1 (nI N) - 1, h) (by omega) (by have := fuel_big; omega) ⟨rfl, .rf⟩
    refine ⟨s.2, Eq.trans e ?_, fx⟩
    rw [es]
  have kM : ∀ h1, Core h h1 → ∃ g', fX12_unread_l20 p fuel0 (jshl 1 (nI N) - 1) 0 h1 = some (itf (unr h N M n L C p) 0 10 (jshl 1 (nI N) - 1), g') ∧ Core h1 g' := fun h1 c0 => by
    obtain ⟨s, e, es, fx⟩ := for_ex (F := fun m xx (s : Int32 × AH) => fX12_unread_l20 p m s.1 xx s.2) (fun s => some (s.1, s.2)) 10 (by decide) (fun i s => s.1 = itf (unr h N M n L C p) 0 i (jshl 1 (nI N) - 1) ∧ Core h1 s.2) (fun m i s hi hI => by
        obtain ⟨a, g⟩ := s
        obtain ⟨ea, cg⟩ := hI
        dsimp only at ea cg
        show ∃ s', fX12_unread_l20b (fX12_unread_l20 p m) p a (nI i) g = _ ∧ _
        unfold fX12_unread_l20b
        obtain ⟨g1, e1, f1⟩ := readBy_eq (he := nI i) H X (c0.tr cg)
        rw [if_pos (show nI i < 10 from nI_lt (b := 10) hi (by decide)), has_bt _ (show i < 32 by omega), e1, ob, nI_1, itf_last, ← ea, Nat.zero_add]
        dsimp only [letT]
        unfold unr
        cases bt p i with
        | false =>
          rw [if_pos ite_f0]
          exact ⟨(a, g), rfl, rfl, cg⟩
        | true =>
          rw [if_neg ite_t0]
          exact ⟨(_, g1), rfl, rfl, cg.tr f1.core⟩) (fun m s hI => by
        show fX12_unread_l20b (fX12_unread_l20 p m) p s.1 (nI 10) s.2 = _
        unfold fX12_unread_l20b
        rw [if_neg (by decide)]) fuel0 0 (jshl 1 (nI N) - 1, h1) (by omega) (by have := fuel_big; omega) ⟨rfl, .rf⟩
    refine ⟨s.2, Eq.trans e ?_, fx⟩
    rw [es]
  obtain ⟨g1, e1, d1⟩ := kX
  obtain ⟨g2, e2, d2⟩ := kM g1 d1
  refine St.ro (r := itf (unr h N M n L C p) 0 10 (jshl 1 (nI N) - 1)) I ?_ d1 ?_ d2
  · unfold xo_unread fX11_unread
    rw [areHearers_yes c1 c2, if_neg (by decide)]
    unfold fX6_allLines fX11_bit
    rw [H.sX]
    exact e1
  · unfold mo_unread fX12_unread
    rw [in_yes c1 c2, if_neg (by decide)]
    unfold fX12_allLines
    rw [(H.core d1).sM]
    exact e2
/-! ===== readers ===== -/
/-- what some hearers read together -/
def tog (R : Nat → Int32) (s : Int32) : Int32 := itf (fun he a => if bt s he then a ||| R he else a) 0 10 0
theorem readAll_eq {N M x : Nat} {h g : AH} {R : Nat → Int32} {s : Int32} (H : ScN N M x h) (c : Core h g) (e51 : ∀ i, i < 10 → g.1 51 i = R i) : fX11_readAll s g = some (if tog R s = jshl 1 (nI N) - 1 then 1 else 0) := by
  unfold fX11_readAll
  have k := for_up0 (F := fun m xx (a : Int32) => fX11_readAll_l4 (fun (y4 : Int32) => if y4 = (fX6_allLines g) then some (1 : Int32) else some (0 : Int32)) s g m a xx) (fun he a => if bt s he then a ||| R he else a) (fun y4 => if y4 = (fX6_allLines g) then some (1 : Int32) else some (0 : Int32)) 10 (by decide) (fun m i a hi => by
      show fX11_readAll_l4b (fX11_readAll_l4 _ s g m) _ s g a (nI i) = _
      unfold fX11_readAll_l4b
      rw [if_pos (show nI i < 10 from nI_lt (b := 10) hi (by decide)), isIn_bt _ (show i < 32 by omega), at_in (show i < aln 51 by show _ < 10; omega), e51 i hi, nI_1]
      dsimp only [letT]
      cases bt s i with
      | false => rw [if_pos ite_f0]; rfl
      | true => rw [if_neg ite_t0]; rfl) (fun m a => by
      show fX11_readAll_l4b (fX11_readAll_l4 _ s g m) _ s g a (nI 10) = _
      unfold fX11_readAll_l4b
      rw [if_neg (by decide)]) fuel0 0 0 (by omega) (by have := fuel_big; omega)
  refine Eq.trans k ?_
  show (if tog R s = fX6_allLines g then _ else _) = _
  unfold fX6_allLines fX11_bit
  rw [(H.core c).sX]
  by_cases e : tog R s = jshl 1 (nI N) - 1
  · rw [if_pos e, if_pos e]
  · rw [if_neg e, if_neg e]
theorem together_eq {g : AH} {R : Nat → Int32} {s : Int32} (e104 : ∀ i, i < 10 → g.1 104 i = R i) : fX12_together s g = some (tog R s) := by
  unfold fX12_together
  have k := for_up0 (F := fun m xx (a : Int32) => fX12_together_l4 s g m a xx) (fun he a => if bt s he then a ||| R he else a) (fun y4 => some y4) 10 (by decide) (fun m i a hi => by
      show fX12_together_l4b (fX12_together_l4 s g m) s g a (nI i) = _
      unfold fX12_together_l4b
      rw [if_pos (show nI i < 10 from nI_lt (b := 10) hi (by decide)), has_bt _ (show i < 32 by omega), if_neg (gd hi (by decide)), nI_clamp (by omega), e104 i hi, nI_1]
      dsimp only [letT]
      cases bt s i with
      | false => rw [if_pos ite_f0]; rfl
      | true => rw [if_neg ite_t0]; rfl) (fun m a => by
      show fX12_together_l4b (fX12_together_l4 s g m) s g a (nI 10) = _
      unfold fX12_together_l4b
      rw [if_neg (by decide)]) fuel0 0 0 (by omega) (by have := fuel_big; omega)
  exact k
theorem tog_cong {R R' : Nat → Int32} {s : Int32} (h : ∀ i, i < 10 → bt s i = true → R i = R' i) : tog R s = tog R' s := by
  unfold tog
  refine itf_cong (fun j a _ hj => ?_)
  cases hb : bt s j with
  | false => rfl
  | true => rw [if_pos rfl, if_pos rfl, h j (by omega) hb]
