/-! ===== reads, unread ===== -/
theorem isHearer_eq {p : Int32} {g : AH} : fX12_isHearer p g = if p < 0 then 0 else if p < 10 then 1 else 0 := by
  unfold fX12_isHearer
  rfl
def mns (h : AH) (N M n : Nat) (L : Nat → Int32) (C V : Nat → Rw → Int32) (he : Int32) (i : Nat) : Int32 := if rds h N M n L C he i then ama n L C V 116 99 (ffc h N M i (h.1 7 i) he) else 0
theorem minutesFor_eq {N M x n : Nat} {h g : AH} {he : Int32} {L : Nat → Int32} {C V : Nat → Rw → Int32} (H : ScN N M x h) (X : Lx h n L C V) (c : Core h g) : ∃ g', fX11_minutesFor he (nI (bs (rds h N M n L C he) N)) g = some (itf (fun i s => s + mns h N M n L C V he i) 0 N 0, g') ∧ Core g g' := by
  have hN := H.N
  unfold fX11_minutesFor
  obtain ⟨s, e, es, fx⟩ := for_ex (F := fun m xx (s : Int32 × AH) => fX11_minutesFor_l5 he (nI (bs (rds h N M n L C he) N)) m s.1 xx s.2) (fun s => some (s.1, s.2)) N (by omega) (fun i s => s.1 = itf (fun i s => s + mns h N M n L C V he i) 0 i 0 ∧ FX g s.2) (fun m i s hi hI => by
      obtain ⟨a, g'⟩ := s
      obtain ⟨ea, fx⟩ := hI
      dsimp only at ea fx
      have cg := c.tr fx.core
      have Hg := H.core cg
      show ∃ s', fX11_minutesFor_l5b (fX11_minutesFor_l5 he (nI (bs (rds h N M n L C he) N)) m) he (nI (bs (rds h N M n L C he) N)) a (nI i) g' = _ ∧ _
      unfold fX11_minutesFor_l5b
      obtain ⟨g2, e2, f2⟩ := amountAt_eq (l := 116) (he := he) H X cg hi (Or.inl rfl)
      rw [if_neg (by decide)] at e2
      rw [Hg.sX, if_pos (nI_lt hi (by omega)), isIn_bt _ (show i < 32 by omega), e2, ob, nI_1]
      dsimp only
      have eb : bt (nI (bs (rds h N M n L C he) N)) i = rds h N M n L C he i := by
        rw [bt_nI (by omega), bs_bit]
        simp [hi]
      rw [eb, itf_last, ← ea, Nat.zero_add]
      unfold mns
      cases rds h N M n L C he i with
      | false =>
        rw [if_pos ite_f0]
        refine ⟨(a, g'), rfl, ?_, fx⟩
        show a = a + 0
        rw [Int32.add_zero]
      | true =>
        rw [if_neg ite_t0]
        exact ⟨(_, g2), rfl, rfl, fx.tr f2⟩) (fun m s hI => by
      show fX11_minutesFor_l5b (fX11_minutesFor_l5 he (nI (bs (rds h N M n L C he) N)) m) he (nI (bs (rds h N M n L C he) N)) s.1 (nI N) s.2 = _
      unfold fX11_minutesFor_l5b
      rw [(H.core (c.tr hI.2.core)).sX, if_neg (nI_nlt (Nat.le_refl _) (by omega))]) fuel0 0 (0, g) (by omega) (by have := fuel_big; omega) ⟨rfl, FX.rf⟩
  refine ⟨s.2, Eq.trans e ?_, fx.core⟩
  rw [es]
theorem readsM50 {N M x n : Nat} {h g : AH} {he : Int32} {L : Nat → Int32} {C V : Nat → Rw → Int32} (H : ScN N M x h) (X : Lx h n L C V) (c : Core h g) : ∃ g', fX12_reads_l50 he (nI (bs (rds h N M n L C he) N)) fuel0 0 0 g = some (itf (fun i s => s + mns h N M n L C V he i) 0 N 0, g') ∧ Core g g' := by
  have hN := H.N
  obtain ⟨s, e, es, fx⟩ := for_ex (F := fun m xx (s : Int32 × AH) => fX12_reads_l50 he (nI (bs (rds h N M n L C he) N)) m s.1 xx s.2) (fun s => some (s.1, s.2)) N (by omega) (fun i s => s.1 = itf (fun i s => s + mns h N M n L C V he i) 0 i 0 ∧ FM g s.2) (fun m i s hi hI => by
      obtain ⟨a, g'⟩ := s
      obtain ⟨ea, fx⟩ := hI
      dsimp only at ea fx
      have cg := c.tr fx.core
      have Hg := H.core cg
      show ∃ s', fX12_reads_l50b (fX12_reads_l50 he (nI (bs (rds h N M n L C he) N)) m) he (nI (bs (rds h N M n L C he) N)) a (nI i) g' = _ ∧ _
      unfold fX12_reads_l50b
      obtain ⟨g2, e2, f2⟩ := minutesOf_eq (he := he) H X cg hi
      rw [Hg.sM, if_pos (nI_lt hi (by omega)), has_bt _ (show i < 32 by omega), e2, ob, nI_1]
      dsimp only [letT]
      have eb : bt (nI (bs (rds h N M n L C he) N)) i = rds h N M n L C he i := by
        rw [bt_nI (by omega), bs_bit]
        simp [hi]
      rw [eb, itf_last, ← ea, Nat.zero_add]
      unfold mns
      cases rds h N M n L C he i with
      | false =>
        rw [if_pos ite_f0]
        exact ⟨(a + 0, g'), rfl, rfl, fx⟩
      | true =>
        rw [if_neg ite_t0]
        exact ⟨(_, g2), rfl, rfl, fx.tr f2⟩) (fun m s hI => by
      show fX12_reads_l50b (fX12_reads_l50 he (nI (bs (rds h N M n L C he) N)) m) he (nI (bs (rds h N M n L C he) N)) s.1 (nI N) s.2 = _
      unfold fX12_reads_l50b
      rw [(H.core (c.tr hI.2.core)).sM, if_neg (nI_nlt (Nat.le_refl _) (by omega))]) fuel0 0 (0, g) (by omega) (by have := fuel_big; omega) ⟨rfl, FM.rf⟩
  refine ⟨s.2, Eq.trans e ?_, fx.core⟩
  rw [es]
theorem st_reads (p q : Int32) {h : AH} (I : Inv h) : St (xo_reads p q) (mo_reads p q) h := by
  obtain ⟨⟨N, M, x, H⟩, -, -, n, hL⟩ := id I
  obtain ⟨L, C, V, X⟩ := hL.x
  by_cases c1 : p < 0
  · refine St.ro (r := -1) I ?_ .rf ?_ .rf
    · unfold xo_reads fX11_reads
      rw [if_pos c1]
    · unfold mo_reads fX12_reads
      rw [isHearer_eq, if_pos c1, if_pos rfl]
  by_cases c2 : ¬ p < 10
  · refine St.ro (r := -1) I ?_ .rf ?_ .rf
    · unfold xo_reads fX11_reads
      rw [if_neg c1, if_neg c2]
    · unfold mo_reads fX12_reads
      rw [isHearer_eq, if_neg c1, if_neg c2, if_pos rfl]
  have c2 : p < 10 := Decidable.of_not_not c2
  by_cases c3 : q < 0
  · refine St.ro (r := -1) I ?_ .rf ?_ .rf
    · unfold xo_reads fX11_reads
      rw [if_neg c1, if_pos c2, if_pos c3]
    · unfold mo_reads fX12_reads
      rw [isHearer_eq, if_neg c1, if_pos c2, if_neg (by decide), in_no (Or.inl c3), if_pos rfl]
  by_cases c4 : (2 : Int32) < q
  · refine St.ro (r := -1) I ?_ .rf ?_ .rf
    · unfold xo_reads fX11_reads
      rw [if_neg c1, if_pos c2, if_neg c3, if_pos c4]
    · unfold mo_reads fX12_reads
      rw [isHearer_eq, if_neg c1, if_pos c2, if_neg (by decide), in_no (Or.inr c4), if_pos rfl]
  obtain ⟨w, hw0, rfl⟩ := nI_of c3
  have w2 : w ≤ 2 := by
    by_cases a : w ≤ 2
    · exact a
    · exact absurd (nI_lt (a := 2) (b := w) (by omega) hw0) c4
  obtain ⟨g1, e1, f1⟩ := linesReadBy_eq (he := p) H X .rf
  have d1 := f1.core
  unfold xo_reads mo_reads
  have sX : ∀ {r : Int32} {h1 : AH}, ((fX11_linesReadBy p h).bind (fun b5 => if nI w = 0 then some (b5.1, b5.2) else if nI w = (1 : Int32) then (fX9_wrongLines b5.2).bind (fun b11 => some (b5.1 &&& b11, b5.2)) else (fX11_minutesFor p b5.1 b5.2).bind (fun b9 => some (b9.1, b9.2)))) = some (r, h1) → fX11_reads p (nI w) h = some (r, h1) := fun {r h1} e => by
    unfold fX11_reads
    rw [if_neg c1, if_pos c2, if_neg c3, if_neg c4]
    exact e
  have sM : ∀ {r : Int32} {g h1 : AH}, ((fX12_readBy p g).bind (fun b3 => if nI w < (2 : Int32) then (if nI w = 0 then some (b3.1, b3.2) else (fX12_wrong b3.2).bind (fun b12 => some (b3.1 &&& b12, b3.2))) else fX12_reads_l50 p b3.1 fuel0 (0 : Int32) (0 : Int32) b3.2)) = some (r, h1) → fX12_reads p (nI w) g = some (r, h1) := fun {r g h1} e => by
    unfold fX12_reads
    rw [isHearer_eq, if_neg c1, if_pos c2, if_neg (by decide), in_yes c3 c4, if_neg (by decide)]
    exact e
  have : w = 0 ∨ w = 1 ∨ w = 2 := by omega
  rcases this with rfl | rfl | rfl
  · obtain ⟨g2, e2, f2⟩ := readBy_eq (he := p) H X d1
    refine St.ro (r := nI (bs (rds h N M n L C p) N)) I (sX ?_) d1 (sM ?_) f2.core
    · rw [e1, ob, if_pos (show nI 0 = 0 from rfl)]
    · rw [e2, ob, if_pos (by decide), if_pos (show nI 0 = 0 from rfl)]
  · obtain ⟨g2, e2, f2⟩ := readBy_eq (he := p) H X d1
    have d2 := d1.tr f2.core
    refine St.ro (r := nI (bs (rds h N M n L C p) N) &&& nI (bs (wrX h) N)) I (sX ?_) d1 (sM ?_) f2.core
    · rw [e1, ob, if_neg (by decide), if_pos (show nI 1 = 1 from rfl), wrongLines_eq (H.core d1).WX, ob, wrX_core (N := N) (M := M) (x := x) d1]
    · rw [e2, ob, if_pos (by decide), if_neg (by decide), wrong_eqM (H.core d2).WM, ob]
      have ew : bs (wrM g2) N = bs (wrX h) N := bs_cong (fun i hi => by
        rw [← (H.core d2).wr i hi, wrX_core (N := N) (M := M) (x := x) d2])
      rw [ew]
  · obtain ⟨g2, e2, f2⟩ := minutesFor_eq (he := p) H X d1
    have d2 := d1.tr f2
    obtain ⟨g3, e3, f3⟩ := readBy_eq (he := p) H X d2
    have d3 := d2.tr f3.core
    obtain ⟨g4, e4, f4⟩ := readsM50 (he := p) H X d3
    refine St.ro (r := itf (fun i s => s + mns h N M n L C V p i) 0 N 0) I (sX ?_) d2 (sM ?_) (f3.core.tr f4)
    · rw [e1, ob, if_neg (by decide), if_neg (by decide)]
      dsimp only
      rw [e2, ob]
    · rw [e3, ob, if_neg (by decide)]
      exact e4
