/-! ===== the law at work: the model ===== -/
theorem FM.sI103 {g : AH} {j : Nat} {v : Int32} : FM g (sI g 103 j v) := fun a _ _ h3 => sI_ne _ _ _ h3
theorem feels_eq {N M x i : Nat} {h g : AH} {cl he : Int32} (H : ScN N M x h) (c : Core h g) (hi : i < N) : ∃ g', fX12_feels (nI i) cl he g = some g' ∧ FM g g' ∧ eqOn 8 (g'.1 103) (ffc h N M i cl he) := by
  have hN := H.N
  have Hg := H.core c
  have g20 := gd (show i < 20 by omega) (by decide)
  unfold fX12_feels
  dsimp only [letT]
  rw [if_neg g20, nI_clamp (by omega)]
  obtain ⟨g1, e1⟩ : ∃ g1, g1 = sI (sI (sI g 103 (0 : Int32).toNatClampNeg (nI i)) 103 (1 : Int32).toNatClampNeg ((sI g 103 (0 : Int32).toNatClampNeg (nI i)).1 78 i)) 103 (2 : Int32).toNatClampNeg cl := ⟨_, rfl⟩
  rw [← e1]
  have f1 : FM g g1 := by rw [e1]; exact (FM.sI103.tr FM.sI103).tr FM.sI103
  have c1 : Core h g1 := c.tr f1.core
  have H1 := H.core c1
  obtain ⟨rd, hd⟩ := depthOf_eq (h := g1) H1.WM hi H1.dp
  rw [hd, ob]
  dsimp only
  obtain ⟨g2, e2⟩ : ∃ g2, g2 = sI (sR g1 90 rd) 103 (3 : Int32).toNatClampNeg (g1.1 11 i) := ⟨_, rfl⟩
  rw [← e2]
  have f2 : FM g1 g2 := by
    rw [e2]
    exact FM.tr (b := sR g1 90 rd) (fun a h1 _ _ => sR_ne _ _ h1) FM.sI103
  have c2 : Core h g2 := c1.tr f2.core
  have H2 := H.core c2
  rw [usedBy_eq H2.WM, ob, ← H2.us hi]
  refine ⟨_, rfl, (f1.tr f2).tr (((FM.sI103.tr FM.sI103).tr FM.sI103).tr FM.sI103), ?_⟩
  have r103 : g2.1 103 = upd (upd (upd (upd (g.1 103) 0 (nI i)) 1 (g.1 78 i)) 2 cl) 3 (g1.1 11 i) := by rw [e2, e1]; rfl
  intro j hj
  have : j = 0 ∨ j = 1 ∨ j = 2 ∨ j = 3 ∨ j = 4 ∨ j = 5 ∨ j = 6 ∨ j = 7 := by omega
  rcases this with rfl | rfl | rfl | rfl | rfl | rfl | rfl | rfl
  · show g2.1 103 0 = nI i
    rw [r103]; rfl
  · show g2.1 103 1 = h.1 8 i
    rw [r103]
    show g.1 78 i = h.1 8 i
    rw [c.C 78 (by decide)]
    exact (H.rows hi).2.1.symm
  · show g2.1 103 2 = cl
    rw [r103]; rfl
  · show g2.1 103 3 = h.1 11 i
    rw [r103]
    show g1.1 11 i = h.1 11 i
    rw [c1.C 11 (by decide)]
  · show g2.1 12 i = h.1 12 i
    rw [c2.C 12 (by decide)]
  · exact H2.sM
  · exact H2.eM
  · rfl
theorem condM {n q : Nat} {h g : AH} {L : Nat → Int32} {C V : Nat → Rw → Int32} {f : Rw} (X : Lx h n L C V) (hq : q < n) (c : Core h g) (ef : eqOn 8 (g.1 103) f) : ∃ g', fX12_comesTo (g.1 100 q) (g.1 101 q) g = some (C q f, g') ∧ FM0 g g' := by
  obtain ⟨n14, -, -, -, hX⟩ := X.core c
  obtain ⟨-, -, c01, cg, -, -, ev, -⟩ := hX q hq
  obtain ⟨r, e⟩ := ev g (fun _ _ => rfl)
  rw [e, (cg _ _ ef).1]
  exact ⟨_, rfl, FM0.run r⟩
theorem readsIt_eq {N M x i n : Nat} {h g : AH} {cl he : Int32} {L : Nat → Int32} {C V : Nat → Rw → Int32} (H : ScN N M x h) (X : Lx h n L C V) (c : Core h g) (hi : i < N) : ∃ g', fX12_readsIt (nI i) cl he g = some (if rdb n L C (ffc h N M i cl he) then 1 else 0, g') ∧ FM g g' := by
  have n14 := X.1
  obtain ⟨g1, e1, f1, q1⟩ := feels_eq (cl := cl) (he := he) H c hi
  unfold fX12_readsIt rdb
  rw [e1, ob]
  generalize ffc h N M i cl he = f at q1
  have c1 := c.tr f1.core
  rcases for_or (F := fun m xx g => fX12_readsIt_l10 m xx g) (fun g => some ((0 : Int32), g)) (fun g => some ((1 : Int32), g)) n (by omega) (fun q g' => FM0 g1 g' ∧ ∀ i, i < q → rdQ L C 114 f i = false) (fun g' => FM0 g1 g' ∧ ∃ q, fst (rdQ L C 114 f) 0 n = some q) (fun m q g' hq hI => by
      obtain ⟨fx, hb⟩ := hI
      have cg := c1.tr fx.1.core
      obtain ⟨-, -, e0, -, hX⟩ := X.core cg
      obtain ⟨g2, e2, f2⟩ := condM X hq cg (by rw [fx.2]; exact q1)
      have g14 := gd (show q < 14 by omega) (by decide)
      show (∃ s', fX12_readsIt_l10b (fX12_readsIt_l10 m) (nI q) g' = _ ∧ _) ∨ (∃ s', fX12_readsIt_l10b (fX12_readsIt_l10 m) (nI q) g' = _ ∧ _)
      unfold fX12_readsIt_l10b
      rw [e0, if_pos (nI_lt hq (by omega)), if_neg g14, if_neg g14, if_neg g14, nI_clamp (by omega), (hX q hq).2.1, e2, ob, nI_1]
      have grow : rdQ L C 114 f q = false → ∀ i, i < q + 1 → rdQ L C 114 f i = false := fun z i hi => by
        by_cases e : i = q
        · rw [e]; exact z
        · exact hb i (by omega)
      by_cases l : L q = 114
      · rw [if_pos l]
        dsimp only
        by_cases z : C q f = 1
        · right
          rw [if_pos z]
          exact ⟨g2, rfl, fx.tr f2, q, fst_here (Nat.zero_le _) (by omega) (fun i _ hi => hb i hi) (by unfold rdQ; simp [l, z])⟩
        · left
          rw [if_neg z]
          exact ⟨g2, rfl, fx.tr f2, grow (by unfold rdQ; simp [z])⟩
      · left
        rw [if_neg l]
        exact ⟨g', rfl, fx, grow (by unfold rdQ; simp [l])⟩) (fun m g' hI => by
      show fX12_readsIt_l10b (fX12_readsIt_l10 m) (nI n) g' = _
      unfold fX12_readsIt_l10b
      rw [(X.core (c1.tr hI.1.1.core)).2.2.1, if_neg (nI_nlt (Nat.le_refl _) (by omega))]) fuel0 0 g1 (by omega) (by have := fuel_big; omega) ⟨FM0.rf, fun i hi => absurd hi (Nat.not_lt_zero _)⟩ with ⟨g', e, fx, hb⟩ | ⟨g', e, fx, q, hq⟩
  · refine ⟨g', Eq.trans e ?_, f1.tr fx.1⟩
    rw [fst_nil (fun i _ hi => hb i (by omega))]
    rfl
  · refine ⟨g', Eq.trans e ?_, f1.tr fx.1⟩
    rw [hq]
    rfl
theorem byLaw_eq {n : Nat} {h g : AH} {L : Nat → Int32} {C V : Nat → Rw → Int32} {f : Rw} {l m : Int32} (X : Lx h n L C V) (c : Core h g) (ef : eqOn 8 (g.1 103) f) (hl : l ≠ 114) : ∃ g', fX12_byLaw l m g = some (ama n L C V l m f, g') ∧ FM0 g g' := by
  have n14 := X.1
  unfold fX12_byLaw ama
  generalize hK : (fun (y9 : Int32) (g10 : AH) => if y9 < 0 ∨ 14 ≤ y9.toNatClampNeg then none else if y9 < 0 ∨ 14 ≤ y9.toNatClampNeg then none else (fX12_comesTo (g10.1 99 y9.toNatClampNeg) (g10.1 100 y9.toNatClampNeg) g10).bind (fun b13 => if b13.1 < 0 then some ((0 : Int32), b13.2) else if m < b13.1 then some (m, b13.2) else some (b13.1, b13.2))) = K
  rcases for_or (F := fun k xx (s : Nat × AH) => fX12_byLaw_l2 K l m k xx s.2) (fun s => some ((0 : Int32), s.2)) (fun s => K (nI s.1) s.2) n (by omega) (fun q s => FM0 g s.2 ∧ ∀ i, i < q → rdQ L C l f i = false) (fun s => FM0 g s.2 ∧ L s.1 = l ∧ fst (rdQ L C l f) 0 n = some s.1) (fun k q s hq hI => by
      obtain ⟨q0, g'⟩ := s
      obtain ⟨fx, hb⟩ := hI
      dsimp only at fx
      have cg := c.tr fx.1.core
      obtain ⟨-, -, e0, -, hX⟩ := X.core cg
      obtain ⟨g2, e2, f2⟩ := condM X hq cg (by rw [fx.2]; exact ef)
      have g14 := gd (show q < 14 by omega) (by decide)
      show (∃ s', fX12_byLaw_l2b (fX12_byLaw_l2 K l m k) K l m (nI q) g' = _ ∧ _) ∨ (∃ s', fX12_byLaw_l2b (fX12_byLaw_l2 K l m k) K l m (nI q) g' = _ ∧ _)
      unfold fX12_byLaw_l2b
      rw [e0, if_pos (nI_lt hq (by omega)), if_neg g14, if_neg g14, if_neg g14, nI_clamp (by omega), (hX q hq).2.1, e2, ob, nI_1]
      have grow : rdQ L C l f q = false → ∀ i, i < q + 1 → rdQ L C l f i = false := fun z i hi => by
        by_cases e : i = q
        · rw [e]; exact z
        · exact hb i (by omega)
      by_cases hlq : L q = l
      · rw [if_pos hlq]
        dsimp only
        by_cases z : C q f = 1
        · right
          rw [if_pos z]
          exact ⟨(q, g2), rfl, fx.tr f2, hlq, fst_here (Nat.zero_le _) (by omega) (fun i _ hi => hb i hi) (by unfold rdQ; simp [hlq, z])⟩
        · left
          rw [if_neg z]
          exact ⟨(q0, g2), rfl, fx.tr f2, grow (by unfold rdQ; simp [z])⟩
      · left
        rw [if_neg hlq]
        exact ⟨(q0, g'), rfl, fx, grow (by unfold rdQ; simp [hlq])⟩) (fun k s hI => by
      show fX12_byLaw_l2b (fX12_byLaw_l2 K l m k) K l m (nI n) s.2 = _
      unfold fX12_byLaw_l2b
      rw [(X.core (c.tr hI.1.1.core)).2.2.1, if_neg (nI_nlt (Nat.le_refl _) (by omega))]) fuel0 0 (0, g) (by omega) (by have := fuel_big; omega) ⟨FM0.rf, fun i hi => absurd hi (Nat.not_lt_zero _)⟩ with ⟨s, e, fx, hb⟩ | ⟨s, e, fx, hl2, hq⟩
  · refine ⟨s.2, Eq.trans e ?_, fx⟩
    rw [fst_nil (fun i _ hi => hb i (by omega))]
    rfl
  · obtain ⟨q, g'⟩ := s
    dsimp only at fx hl2 hq e
    have hqn := (fst_some hq).2.1
    have cg := c.tr fx.1.core
    obtain ⟨-, -, -, -, hX⟩ := X.core cg
    obtain ⟨-, -, -, cc, -, -, -, hV⟩ := hX q (by omega)
    obtain ⟨r, e2⟩ := (hV (by rw [hl2]; exact hl)).2 g' (fun _ _ => rfl)
    have g14 := gd (show q < 14 by omega) (by decide)
    refine ⟨sR g' 102 r, e.trans ?_, fx.tr (FM0.run r)⟩
    rw [← hK]
    dsimp only
    rw [if_neg g14, if_neg g14, nI_clamp (by omega), e2, ob, hq]
    dsimp only [Option.elim]
    rw [(cc _ _ (show eqOn 8 (g'.1 103) f by rw [fx.2]; exact ef)).2]
    unfold clp
    split
    · rfl
    · split <;> rfl
/-- what a hearer reads, as a set -/
def rds (h : AH) (N M n : Nat) (L : Nat → Int32) (C : Nat → Rw → Int32) (he : Int32) (i : Nat) : Bool := rdb n L C (ffc h N M i (h.1 7 i) he)
theorem bs_no {p : Nat → Bool} {n : Nat} (h : p n = false) : bs p (n + 1) = bs p n := by
  show bs p n + (if p n then 2 ^ n else 0) = _
  rw [h]
  rfl
theorem bs_yes {p : Nat → Bool} {n : Nat} (h : p n = true) : bs p (n + 1) = bs p n ||| 2 ^ n := by
  show bs p n + (if p n then 2 ^ n else 0) = _
  rw [h, bs_or]
  rfl
theorem ite_f0 : (if false = true then (1 : Int32) else 0) = 0 := rfl
theorem ite_t0 : ¬ (if true = true then (1 : Int32) else 0) = 0 := by decide
theorem linesReadBy_eq {N M x n : Nat} {h g : AH} {he : Int32} {L : Nat → Int32} {C V : Nat → Rw → Int32} (H : ScN N M x h) (X : Lx h n L C V) (c : Core h g) : ∃ g', fX11_linesReadBy he g = some (nI (bs (rds h N M n L C he) N), g') ∧ FX g g' := by
  have hN := H.N
  unfold fX11_linesReadBy
  obtain ⟨s, e, es, fx⟩ := for_ex (F := fun m xx (s : Int32 × AH) => fX11_linesReadBy_l4 he m s.1 xx s.2) (fun s => some (s.1, s.2)) N (by omega) (fun i s => s.1 = nI (bs (rds h N M n L C he) i) ∧ FX g s.2) (fun m i s hi hI => by
      obtain ⟨a, g'⟩ := s
      obtain ⟨ea, fx⟩ := hI
      dsimp only at ea fx
      have cg := c.tr fx.core
      have Hg := H.core cg
      show ∃ s', fX11_linesReadBy_l4b (fX11_linesReadBy_l4 he m) he a (nI i) g' = _ ∧ _
      unfold fX11_linesReadBy_l4b fX9_claimOf
      dsimp only [letT]
      obtain ⟨g1, e1, f1, q1⟩ := lookAt_eq (cl := h.1 7 i) (he := he) H cg hi
      rw [Hg.sX, if_pos (nI_lt hi (by omega)), at_in (show i < aln 7 by show _ < 20; omega), cg.C 7 (by decide), e1]
      obtain ⟨g2, e2, f2⟩ := isRead_eq X (cg.tr f1.core) q1
      rw [e2, ob, nI_1]
      dsimp only
      have eb : rds h N M n L C he i = rdb n L C (ffc h N M i (h.1 7 i) he) := rfl
      cases hb : rdb n L C (ffc h N M i (h.1 7 i) he) with
      | false =>
        rw [if_pos ite_f0]
        refine ⟨(a, g2), rfl, ?_, (fx.tr f1).tr f2.1⟩
        rw [bs_no (eb.trans hb)]
        exact ea
      | true =>
        rw [if_neg ite_t0]
        refine ⟨(a ||| fX11_bit (nI i) g2, g2), rfl, ?_, (fx.tr f1).tr f2.1⟩
        rw [bs_yes (eb.trans hb), ← or_bit (by omega), ← ea]
        rfl) (fun m s hI => by
      show fX11_linesReadBy_l4b (fX11_linesReadBy_l4 he m) he s.1 (nI N) s.2 = _
      unfold fX11_linesReadBy_l4b
      rw [(H.core (c.tr hI.2.core)).sX, if_neg (nI_nlt (Nat.le_refl _) (by omega))]) fuel0 0 (0, g) (by omega) (by have := fuel_big; omega) ⟨rfl, FX.rf⟩
  refine ⟨s.2, Eq.trans e ?_, fx⟩
  rw [es]
theorem readBy_eq {N M x n : Nat} {h g : AH} {he : Int32} {L : Nat → Int32} {C V : Nat → Rw → Int32} (H : ScN N M x h) (X : Lx h n L C V) (c : Core h g) : ∃ g', fX12_readBy he g = some (nI (bs (rds h N M n L C he) N), g') ∧ FM g g' := by
  have hN := H.N
  unfold fX12_readBy
  obtain ⟨s, e, es, fx⟩ := for_ex (F := fun m xx (s : Int32 × AH) => fX12_readBy_l4 he m s.1 xx s.2) (fun s => some (s.1, s.2)) N (by omega) (fun i s => s.1 = nI (bs (rds h N M n L C he) i) ∧ FM g s.2) (fun m i s hi hI => by
      obtain ⟨a, g'⟩ := s
      obtain ⟨ea, fx⟩ := hI
      dsimp only at ea fx
      have cg := c.tr fx.core
      have Hg := H.core cg
      have g20 := gd (show i < 20 by omega) (by decide)
      show ∃ s', fX12_readBy_l4b (fX12_readBy_l4 he m) he a (nI i) g' = _ ∧ _
      unfold fX12_readBy_l4b
      dsimp only [letT]
      obtain ⟨g2, e2, f2⟩ := readsIt_eq (cl := h.1 7 i) (he := he) H X cg hi
      rw [Hg.sM, if_pos (nI_lt hi (by omega)), if_neg g20, nI_clamp (by omega), cg.C 77 (by decide), ← H.C i hi, e2, ob, nI_1]
      dsimp only
      have eb : rds h N M n L C he i = rdb n L C (ffc h N M i (h.1 7 i) he) := rfl
      cases hb : rdb n L C (ffc h N M i (h.1 7 i) he) with
      | false =>
        rw [if_pos ite_f0]
        refine ⟨(a, g2), rfl, ?_, fx.tr f2⟩
        rw [bs_no (eb.trans hb)]
        exact ea
      | true =>
        rw [if_neg ite_t0]
        refine ⟨(a ||| jshl 1 (nI i), g2), rfl, ?_, fx.tr f2⟩
        rw [bs_yes (eb.trans hb), ← or_bit (by omega), ← ea]) (fun m s hI => by
      show fX12_readBy_l4b (fX12_readBy_l4 he m) he s.1 (nI N) s.2 = _
      unfold fX12_readBy_l4b
      rw [(H.core (c.tr hI.2.core)).sM, if_neg (nI_nlt (Nat.le_refl _) (by omega))]) fuel0 0 (0, g) (by omega) (by have := fuel_big; omega) ⟨rfl, FM.rf⟩
  refine ⟨s.2, Eq.trans e ?_, fx⟩
  rw [es]
theorem amountAt_eq {N M x n i : Nat} {h g : AH} {l he : Int32} {L : Nat → Int32} {C V : Nat → Rw → Int32} (H : ScN N M x h) (X : Lx h n L C V) (c : Core h g) (hi : i < N) (hl : l = 116 ∨ l = 119 ∨ l = 99) : ∃ g', fX11_amountAt l (nI i) he g = some (ama n L C V l (if l = 99 then 10 else 99) (ffc h N M i (h.1 7 i) he), g') ∧ FX g g' := by
  have hN := H.N
  unfold fX11_amountAt fX9_claimOf
  dsimp only [letT]
  obtain ⟨g1, e1, f1, q1⟩ := lookAt_eq (cl := h.1 7 i) (he := he) H c hi
  rw [at_in (show i < aln 7 by show _ < 20; omega), c.C 7 (by decide), e1]
  have c1 := c.tr f1.core
  rcases hl with rfl | rfl | rfl
  · obtain ⟨g2, e2, f2⟩ := amount_eq (l := 116) (m := 99) X c1 q1 (by decide) (by decide)
    rw [if_pos rfl, if_neg (by decide), e2]
    exact ⟨g2, rfl, f1.tr f2.1⟩
  · obtain ⟨g2, e2, f2⟩ := amount_eq (l := 119) (m := 99) X c1 q1 (by decide) (by decide)
    rw [if_neg (by decide), if_pos rfl, if_neg (by decide), e2]
    exact ⟨g2, rfl, f1.tr f2.1⟩
  · obtain ⟨g2, e2, f2⟩ := amount_eq (l := 99) (m := 10) X c1 q1 (by decide) (by decide)
    rw [if_neg (by decide), if_neg (by decide), if_pos rfl, e2]
    exact ⟨g2, rfl, f1.tr f2.1⟩
theorem minutesOf_eq {N M x n i : Nat} {h g : AH} {he : Int32} {L : Nat → Int32} {C V : Nat → Rw → Int32} (H : ScN N M x h) (X : Lx h n L C V) (c : Core h g) (hi : i < N) : ∃ g', fX12_minutesOf (nI i) he g = some (ama n L C V 116 99 (ffc h N M i (h.1 7 i) he), g') ∧ FM g g' := by
  have hN := H.N
  have g20 := gd (show i < 20 by omega) (by decide)
  unfold fX12_minutesOf
  obtain ⟨g1, e1, f1, q1⟩ := feels_eq (cl := h.1 7 i) (he := he) H c hi
  obtain ⟨g2, e2, f2⟩ := byLaw_eq (l := 116) (m := 99) X (c.tr f1.core) q1 (by decide)
  rw [if_neg g20, nI_clamp (by omega), c.C 77 (by decide), ← H.C i hi, e1, ob, e2]
  exact ⟨g2, rfl, f1.tr f2.1⟩
