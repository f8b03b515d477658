/-! ===== referred ===== -/
theorem d01 : ((0 : Int32) = 1) = False := eq_false (by decide)
theorem madeOf_eq {N M i a : Nat} {h : AH} {K F S : Rw} (w : WX N M h) (hl : Lw K F S i) (hi : i < 20) (ha : 20 ≤ aln a) : fX9_madeOf (K i) (F i) (S i) a h = mk (h.1 3 0) (h.1 4) K F S (h.1 a) i := by
  obtain ⟨-, hN, hm, m1, m2, hA, -⟩ := w
  have hmp := nI_m m1 m2
  unfold fX9_madeOf mk fX9_modulo
  rw [hm]
  rcases hl with ⟨h0, ⟨f, hf, ef⟩, -⟩ | ⟨h0, ⟨f, hf, ef⟩, -⟩ | ⟨h0, ⟨f, hf, ef⟩, g, hg, eg⟩
  · simp only [h0, ef, at_in (show f < aln 4 from hf), nI_clamp (show f < 2 ^ 31 by omega), if_true]
  · have hc : (nI f).toNatClampNeg = f := nI_clamp (by omega)
    have hat := at_in (h := h) (show f < aln a by omega)
    rcases h0 with h0 | h0 <;> simp only [h0, ef, hc, hat, hmp.1, d10, d20, d21, d30, d31, d32, d40, d41, d42, d43, if_false, if_true]
  · have hc : (nI f).toNatClampNeg = f := nI_clamp (by omega)
    have hd : (nI g).toNatClampNeg = g := nI_clamp (by omega)
    have hat := at_in (h := h) (show f < aln a by omega)
    have hag := at_in (h := h) (show g < aln a by omega)
    rcases h0 with h0 | h0 <;> simp only [h0, ef, eg, hc, hd, hat, hag, hmp.1, d10, d20, d21, d30, d31, d32, d40, d41, d42, d43, if_false, if_true]
/-- the first row, the second row with another line in a place of line i -/
def rfF (F : Rw) (i pl o : Nat) : Rw := if pl = 0 then upd F i (nI o) else F
def rfS (S : Rw) (i pl o : Nat) : Rw := if pl = 0 then S else upd S i (nI o)
/-- a place in line i where another line ahead may stand -/
def rfV (K F S : Rw) (i pl o : Nat) : Bool := !decide (K i = 0) && (decide (pl = 0) || !decide (S i < 0)) && decide (o < i) && !decide (nI o = if pl = 0 then F i else S i)
def rfQ (m : Int32) (A K F S C : Rw) (W : Nat) (c : Nat) : Bool := rfV K F S (c / 40) (c / 20 % 2) (c % 20) && decide (W = 2 ^ (c / 40)) && decide (C (c / 40) = mk m A K (rfF F (c / 40) (c / 20 % 2) (c % 20)) (rfS S (c / 40) (c / 20 % 2) (c % 20)) C (c / 40))
theorem rf_Lw {K F S : Rw} {i pl o : Nat} (hl : Lw K F S i) (hpl : pl < 2) (hv : rfV K F S i pl o = true) : Lw K (rfF F i pl o) (rfS S i pl o) i := by
  unfold rfV at hv
  simp only [Bool.and_eq_true, Bool.not_eq_true', Bool.or_eq_true, decide_eq_true_eq, decide_eq_false_iff_not] at hv
  obtain ⟨⟨⟨h0, h1⟩, h2⟩, -⟩ := hv
  unfold rfF rfS
  by_cases p0 : pl = 0
  · rw [if_pos p0, if_pos p0]
    unfold Lw
    rw [upd_at]
    rcases hl with ⟨a, -⟩ | ⟨a, -, b⟩ | ⟨a, -, b⟩
    · exact absurd a h0
    · exact Or.inr (Or.inl ⟨a, ⟨o, h2, rfl⟩, b⟩)
    · exact Or.inr (Or.inr ⟨a, ⟨o, h2, rfl⟩, b⟩)
  · rw [if_neg p0, if_neg p0]
    have h1 := h1.resolve_left p0
    unfold Lw
    rw [upd_at]
    rcases hl with ⟨a, -⟩ | ⟨a, -, b⟩ | ⟨a, b, -⟩
    · exact absurd a h0
    · exact absurd (by rw [b]; decide) h1
    · exact Or.inr (Or.inr ⟨a, b, ⟨o, h2, rfl⟩⟩)
theorem ct_ext {p : Nat → Bool} {a : Nat} : ∀ {k : Nat}, (∀ j, a ≤ j → j < a + k → p j = false) → ct p (a + k) = ct p a ∧ fst p 0 (a + k) = fst p 0 a := by
  intro k
  induction k with
  | zero => intro _; exact ⟨rfl, rfl⟩
  | succ k ih =>
    intro h
    obtain ⟨h1, h2⟩ := ih (fun j a b => h j a (by omega))
    have hp := h (a + k) (by omega) (by omega)
    rw [← Nat.add_assoc, ct_succ, fst_last, Nat.zero_add, h1, h2, hp]
    refine ⟨rfl, ?_⟩
    cases fst p 0 a <;> rfl
def rfT (c : Nat) : Int32 × Int32 × Int32 := (nI (c / 40), nI (c / 20 % 2), nI (c % 20))
theorem rf_code {i pl o : Nat} (hp : pl < 2) (ho : o < 20) : (40 * i + 20 * pl + o) / 40 = i ∧ (40 * i + 20 * pl + o) / 20 % 2 = pl ∧ (40 * i + 20 * pl + o) % 20 = o := by omega
/-- one place of one line, on the class's side -/
theorem referElse_eq {N M x i pl W : Nat} {h g : AH} (H : ScN N M x h) (c : Core h g) (hi : i < N) (hp : pl < 2) (hW : bs (wrX h) N = W) (hWi : W = 2 ^ i) (f : FR (g.1 52) (ct (rfQ (h.1 3 0) (h.1 4) (h.1 8) (h.1 9) (h.1 10) (h.1 7) W) (40 * i + 20 * pl)) ((fst (rfQ (h.1 3 0) (h.1 4) (h.1 8) (h.1 9) (h.1 10) (h.1 7) W) 0 (40 * i + 20 * pl)).map rfT)) :
    ∃ g', fX11_referElsewhere (nI i) (nI pl) g = some g' ∧ Core h g' ∧ FR (g'.1 52) (ct (rfQ (h.1 3 0) (h.1 4) (h.1 8) (h.1 9) (h.1 10) (h.1 7) W) (40 * i + 20 * pl + 20)) ((fst (rfQ (h.1 3 0) (h.1 4) (h.1 8) (h.1 9) (h.1 10) (h.1 7) W) 0 (40 * i + 20 * pl + 20)).map rfT) := by
  have hN := H.N
  have hl := H.WX.2.2.2.2.2.2 i hi
  generalize hQ : rfQ (h.1 3 0) (h.1 4) (h.1 8) (h.1 9) (h.1 10) (h.1 7) W = Q at f ⊢
  have i20 : i < 20 := by omega
  have a8 : fX11_at 8 (nI i) g = h.1 8 i := by rw [at_in (show i < aln 8 from i20), c.C 8 (by decide)]
  have a9 : fX11_at 9 (nI i) g = h.1 9 i := by rw [at_in (show i < aln 9 from i20), c.C 9 (by decide)]
  have a10 : fX11_at 10 (nI i) g = h.1 10 i := by rw [at_in (show i < aln 10 from i20), c.C 10 (by decide)]
  have qv : ∀ o, o < 20 → Q (40 * i + 20 * pl + o) = (rfV (h.1 8) (h.1 9) (h.1 10) i pl o && decide (h.1 7 i = mk (h.1 3 0) (h.1 4) (h.1 8) (rfF (h.1 9) i pl o) (rfS (h.1 10) i pl o) (h.1 7) i)) := fun o ho => by
    obtain ⟨e1, e2, e3⟩ := rf_code (i := i) hp ho
    rw [← hQ]
    unfold rfQ
    rw [e1, e2, e3, hWi]
    simp
  -- where nothing may stand
  have none_of : (∀ o, o < 20 → rfV (h.1 8) (h.1 9) (h.1 10) i pl o = false) → FR (g.1 52) (ct Q (40 * i + 20 * pl + 20)) ((fst Q 0 (40 * i + 20 * pl + 20)).map rfT) := fun hz => by
    obtain ⟨e1, e2⟩ := ct_ext (p := Q) (a := 40 * i + 20 * pl) (k := 20) (fun j ja jb => by
      have e : j = 40 * i + 20 * pl + (j - (40 * i + 20 * pl)) := by omega
      rw [e, qv _ (by omega), hz _ (by omega)]
      rfl)
    rw [e1, e2]
    exact f
  unfold fX11_referElsewhere
  rw [a8, a9, a10]
  dsimp only [letT]
  by_cases k0 : h.1 8 i = 0
  · rw [if_pos k0]
    exact ⟨g, rfl, c, none_of (fun o _ => by unfold rfV; simp [k0])⟩
  rw [if_neg k0]
  by_cases nos : pl = 1 ∧ h.1 8 i < 3
  · rw [if_pos (show nI pl = 1 by rw [nos.1]; rfl), if_pos nos.2]
    refine ⟨g, rfl, c, none_of (fun o _ => ?_)⟩
    have : h.1 10 i < 0 := by
      rcases hl with ⟨a, -⟩ | ⟨-, -, b⟩ | ⟨a, -⟩
      · exact absurd a k0
      · rw [b]; decide
      · rcases a with a | a <;> (exfalso; have := nos.2; rw [a] at this; exact absurd this (by decide))
    unfold rfV
    simp [this, nos.1]
  have go : (if nI pl = 1 then (if h.1 8 i < 3 then some g else fX11_referElsewhere_l65 (nI i) (nI pl) (h.1 8 i) (h.1 9 i) (h.1 10 i) fuel0 0 g) else fX11_referElsewhere_l65 (nI i) (nI pl) (h.1 8 i) (h.1 9 i) (h.1 10 i) fuel0 0 g) = fX11_referElsewhere_l65 (nI i) (nI pl) (h.1 8 i) (h.1 9 i) (h.1 10 i) fuel0 0 g := by
    by_cases p1 : pl = 1
    · rw [if_pos (show nI pl = 1 by rw [p1]; rfl), if_neg (fun q => nos ⟨p1, q⟩)]
    · rw [if_neg (show ¬ nI pl = 1 from ne_lit (j := 1) (by omega) (by decide) p1)]
  rw [go]
  have hsv : pl = 0 ∨ ¬ h.1 10 i < 0 := by
    by_cases p0 : pl = 0
    · exact Or.inl p0
    · refine Or.inr (fun q => ?_)
      have p1 : pl = 1 := by omega
      rcases hl with ⟨a, -⟩ | ⟨a, -, b⟩ | ⟨-, -, s, hs, es⟩
      · exact k0 a
      · refine nos ⟨p1, ?_⟩
        rcases a with a | a <;> (rw [a]; decide)
      · rw [es] at q
        exact nI_pos (by omega) q
  have vv : ∀ o, o < i → rfV (h.1 8) (h.1 9) (h.1 10) i pl o = !decide (nI o = if pl = 0 then h.1 9 i else h.1 10 i) := fun o ho => by
    unfold rfV
    rcases hsv with p0 | s0
    · simp [k0, p0, ho]
    · simp [k0, s0, ho]
  obtain ⟨g', hg, cg, fg⟩ := for_ex (F := fun m xx g => fX11_referElsewhere_l65 (nI i) (nI pl) (h.1 8 i) (h.1 9 i) (h.1 10 i) m xx g) (fun g => some g) i (by omega) (fun k g => Core h g ∧ FR (g.1 52) (ct Q (40 * i + 20 * pl + k)) ((fst Q 0 (40 * i + 20 * pl + k)).map rfT)) (fun m k g hk hI => by
      obtain ⟨c, f⟩ := hI
      have Hg := H.core c
      show ∃ s', fX11_referElsewhere_l65b (fX11_referElsewhere_l65 (nI i) (nI pl) (h.1 8 i) (h.1 9 i) (h.1 10 i) m) (nI i) (nI pl) (h.1 8 i) (h.1 9 i) (h.1 10 i) (nI k) g = _ ∧ _
      unfold fX11_referElsewhere_l65b
      rw [if_pos (nI_lt hk (by omega)), nI_1]
      dsimp only [letT]
      have ecl : fX9_claimOf (nI i) g = h.1 7 i := by
        unfold fX9_claimOf
        rw [at_in (show i < aln 7 from i20), c.C 7 (by decide)]
      have hq := qv k (by omega)
      rw [vv k hk] at hq
      have hqn : 40 * i + 20 * pl + (k + 1) = (40 * i + 20 * pl + k) + 1 := by omega
      by_cases ne : nI k = if pl = 0 then h.1 9 i else h.1 10 i
      · have hQk : Q (40 * i + 20 * pl + k) = false := by rw [hq]; simp [ne]
        refine ⟨g, ?_, c, ?_⟩
        · by_cases p0 : pl = 0
          · subst p0
            rw [if_pos rfl] at ne
            have z0 : nI 0 = (0 : Int32) := rfl
            have z1 : ¬ nI 0 = (1 : Int32) := by decide
            simp only [z0, if_true, ← ne, d01, if_false]
          · rw [if_neg p0] at ne
            have z0 : ¬ nI pl = (0 : Int32) := ne_lit (j := 0) (by omega) (by decide) p0
            simp only [z0, if_false, ← ne, if_true, ite_self]
        · rw [hqn, ct_succ, fst_last, Nat.zero_add, hQk]
          cases hf : fst Q 0 (40 * i + 20 * pl + k) with
          | none => rw [hf] at f; exact f
          | some j => rw [hf] at f; exact f
      · have hvk : rfV (h.1 8) (h.1 9) (h.1 10) i pl k = true := by rw [vv k hk]; simp [ne]
        have hmk : fX9_madeOf (h.1 8 i) (rfF (h.1 9) i pl k i) (rfS (h.1 10) i pl k i) 7 g = mk (h.1 3 0) (h.1 4) (h.1 8) (rfF (h.1 9) i pl k) (rfS (h.1 10) i pl k) (h.1 7) i := by
          have := madeOf_eq (a := 7) Hg.WX (rf_Lw hl hp hvk) i20 (by decide)
          rw [c.C 3 (by decide), c.C 4 (by decide), c.C 7 (by decide)] at this
          exact this
        generalize hmv : mk (h.1 3 0) (h.1 4) (h.1 8) (rfF (h.1 9) i pl k) (rfS (h.1 10) i pl k) (h.1 7) i = mv at hmk hq
        obtain ⟨r2, en, fn⟩ := note_eq (nI i) (nI pl) (nI k) f (by have := ct_le Q (40 * i + 20 * pl + k); omega)
        refine ⟨if mv = h.1 7 i then sR g 52 r2 else g, ?_, ?_, ?_⟩
        · by_cases p0 : pl = 0
          · subst p0
            rw [if_pos rfl] at ne
            have z0 : nI 0 = (0 : Int32) := rfl
            have z1 : ¬ nI 0 = (1 : Int32) := by decide
            have e1 : rfF (h.1 9) i 0 k i = nI k := by unfold rfF; rw [if_pos rfl, upd_at]
            have e2 : rfS (h.1 10) i 0 k i = h.1 10 i := by unfold rfS; rw [if_pos rfl]
            rw [e1, e2] at hmk
            simp only [z0, if_true, ne, if_false, d01, d10, hmk, ecl]
            by_cases em : mv = h.1 7 i
            · rw [if_pos em, if_pos em]
              rw [show nI 0 = (0 : Int32) from rfl] at en
              rw [en]
            · rw [if_neg em, if_neg em]
          · have p1 : pl = 1 := by omega
            subst p1
            rw [if_neg (by decide)] at ne
            have z0 : ¬ nI 1 = (0 : Int32) := by decide
            have z1 : nI 1 = (1 : Int32) := rfl
            have e1 : rfF (h.1 9) i 1 k i = h.1 9 i := by unfold rfF; rw [if_neg (by decide)]
            have e2 : rfS (h.1 10) i 1 k i = nI k := by unfold rfS; rw [if_neg (by decide), upd_at]
            rw [e1, e2] at hmk
            rw [z1] at en ⊢
            simp only [if_true, ne, if_false, d10, hmk, ecl]
            by_cases em : mv = h.1 7 i
            · rw [if_pos em, if_pos em, en]
            · rw [if_neg em, if_neg em]
        · split
          · exact c.tr (Core.sR rfl)
          · exact c
        · rw [hqn, ct_succ, fst_last, Nat.zero_add, hq]
          by_cases em : mv = h.1 7 i
          · rw [if_pos em, sR_at]
            have : (!decide (nI k = if pl = 0 then h.1 9 i else h.1 10 i) && decide (h.1 7 i = mv)) = true := by simp [ne, em]
            rw [this]
            obtain ⟨t1, t2, t3⟩ := rf_code (i := i) hp (show k < 20 by omega)
            cases hf : fst Q 0 (40 * i + 20 * pl + k) with
            | none =>
              rw [hf] at fn
              simp only [if_true, Option.map_some]
              unfold rfT
              rw [t1, t2, t3]
              exact fn
            | some j => rw [hf] at fn; exact fn
          · rw [if_neg em]
            have : (!decide (nI k = if pl = 0 then h.1 9 i else h.1 10 i) && decide (h.1 7 i = mv)) = false := by simp; exact fun _ q => em q.symm
            rw [this]
            cases hf : fst Q 0 (40 * i + 20 * pl + k) with
            | none => rw [hf] at f; exact f
            | some j => rw [hf] at f; exact f) (fun m g _ => by
      show fX11_referElsewhere_l65b (fX11_referElsewhere_l65 (nI i) (nI pl) (h.1 8 i) (h.1 9 i) (h.1 10 i) m) (nI i) (nI pl) (h.1 8 i) (h.1 9 i) (h.1 10 i) (nI i) g = _
      unfold fX11_referElsewhere_l65b
      rw [if_neg (nI_nlt (Nat.le_refl _) (by omega))]) fuel0 0 g (by omega) (by have := fuel_big; omega) ⟨c, by rw [Nat.add_zero]; exact f⟩
  refine ⟨g', hg, cg, ?_⟩
  obtain ⟨e1, e2⟩ := ct_ext (p := Q) (a := 40 * i + 20 * pl + i) (k := 20 - i) (fun j ja jb => by
    have e : j = 40 * i + 20 * pl + (j - (40 * i + 20 * pl)) := by omega
    rw [e, qv _ (by omega)]
    have : ¬ (j - (40 * i + 20 * pl)) < i := by omega
    unfold rfV
    simp [this])
  rw [show 40 * i + 20 * pl + i + (20 - i) = 40 * i + 20 * pl + 20 by omega] at e1 e2
  rw [e1, e2]
  exact fg
theorem wrX_core {N M x : Nat} {h g : AH} (c : Core h g) : wrX g = wrX h := by
  funext i
  unfold wrX
  rw [mX_core c, c.C 7 (by decide)]
theorem referredX {N M x : Nat} {h : AH} (H : ScN N M x h) (p : Nat) (hp : p ≤ 3) (hw : ¬ bs (wrX h) N = 0) : ∃ h1 r, xo_referred (nI p) h = some (r p, h1) ∧ Core h h1 ∧ FR r (ct (rfQ (h.1 3 0) (h.1 4) (h.1 8) (h.1 9) (h.1 10) (h.1 7) (bs (wrX h) N)) (40 * N)) ((fst (rfQ (h.1 3 0) (h.1 4) (h.1 8) (h.1 9) (h.1 10) (h.1 7) (bs (wrX h) N)) 0 (40 * N)).map rfT) := by
  have hN := H.N
  obtain ⟨r0, e0, f0⟩ := forget_eq (h := h)
  unfold xo_referred fX11_referred
  rw [if_neg (nI_pos (by omega)), if_neg (show ¬ (3 : Int32) < nI p from nI_nlt (a := 3) (by omega) (by decide)), wrongLines_eq H.WX, ob, if_neg (bs_nz hN hw), e0, ob]
  generalize hW : bs (wrX h) N = W
  have hW31 : W < 2 ^ 31 := by rw [← hW]; exact Nat.lt_trans (bs_lt _ N) (Nat.pow_lt_pow_right (by decide) (by omega))
  obtain ⟨Q, hQ⟩ : ∃ Q, Q = rfQ (h.1 3 0) (h.1 4) (h.1 8) (h.1 9) (h.1 10) (h.1 7) W := ⟨_, rfl⟩
  rw [← hQ]
  obtain ⟨g, hg, c, f⟩ := for_ex (F := fun m xx g => fX11_referred_l27 (fun g16 => some (fX11_at 52 (nI p) g16, g16)) (nI p) m xx g) (fun g16 => some (fX11_at 52 (nI p) g16, g16)) N (by omega) (fun k g => Core h g ∧ FR (g.1 52) (ct Q (40 * k)) ((fst Q 0 (40 * k)).map rfT)) (fun m k g hk hI => by
      obtain ⟨c, f⟩ := hI
      have Hg := H.core c
      show ∃ s', fX11_referred_l27b (fX11_referred_l27 (fun g16 => some (fX11_at 52 (nI p) g16, g16)) (nI p) m) (fun g16 => some (fX11_at 52 (nI p) g16, g16)) (nI p) (nI k) g = _ ∧ _
      unfold fX11_referred_l27b
      rw [Hg.sX, if_pos (nI_lt hk (by omega)), wrongLines_eq Hg.WX, wrX_core c (N := N) (M := M) (x := x), hW, ob, show fX11_bit (nI k) g = jshl 1 (nI k) from rfl, bit_nI (by omega), nI_1]
      by_cases e : W = 2 ^ k
      · rw [if_pos (by rw [e])]
        obtain ⟨g1, a1, a2, a3⟩ := referElse_eq (pl := 0) H c hk (by decide) hW e (by rw [← hQ, Nat.mul_zero, Nat.add_zero]; exact f)
        rw [← hQ] at a3
        obtain ⟨g2, b1, b2, b3⟩ := referElse_eq (pl := 1) H a2 hk (by decide) hW e (by rw [← hQ]; exact a3)
        rw [← hQ] at b3
        rw [show (0 : Int32) = nI 0 from rfl, a1, ob, show (1 : Int32) = nI 1 from rfl, b1, ob]
        exact ⟨g2, rfl, b2, by rw [show 40 * (k + 1) = 40 * k + 20 * 1 + 20 by omega]; exact b3⟩
      · rw [if_neg (fun q => e ((nI_eq hW31 (two31 (by omega))).mp q))]
        refine ⟨g, rfl, c, ?_⟩
        obtain ⟨e1, e2⟩ := ct_ext (p := Q) (a := 40 * k) (k := 40) (fun j ja jb => by
          have : j / 40 = k := by omega
          rw [hQ]
          unfold rfQ
          rw [this]
          simp [e])
        rw [show 40 * (k + 1) = 40 * k + 40 by omega, e1, e2]
        exact f) (fun m g hI => by
      show fX11_referred_l27b (fX11_referred_l27 (fun g16 => some (fX11_at 52 (nI p) g16, g16)) (nI p) m) (fun g16 => some (fX11_at 52 (nI p) g16, g16)) (nI p) (nI N) g = _
      unfold fX11_referred_l27b
      rw [(H.core hI.1).sX, if_neg (nI_nlt (Nat.le_refl _) (by omega))]) fuel0 0 (sR h 52 r0) (by omega) (by have := fuel_big; omega) ⟨Core.sR rfl, by rw [sR_at]; exact f0⟩
  refine ⟨g, g.1 52, ?_, c, f⟩
  refine hg.trans ?_
  rw [at_in (show p < aln 52 by show p < 4; omega)]
/-- the model's wrong lines with another line in a place -/
theorem doesWith_eq {N M i pl o : Nat} {h : AH} (w : WM N M h) (hi : i < N) (hp : pl < 2) (hv : rfV (h.1 78) (h.1 79) (h.1 80) i pl o = true) : fX12_doesWith (nI i) (nI pl) (nI o) h = some (if rgt (mk (h.1 75 0) (h.1 76) (h.1 78) (rfF (h.1 79) i pl o) (rfS (h.1 80) i pl o)) N (h.1 77) then 1 else 0, h) := by
  have hN := w.N
  have g20 := gd (show i < 20 by omega) (by decide)
  have hl := w.2.2.2.2.2.2 i hi
  have hlw := rf_Lw hl hp hv
  -- the school with the other line in it
  have wr : ∀ g : AH, g.1 75 = h.1 75 → g.1 76 = h.1 76 → g.1 77 = h.1 77 → g.1 78 = h.1 78 → g.1 79 = rfF (h.1 79) i pl o → g.1 80 = rfS (h.1 80) i pl o → ∃ b, fX12_wrong g = some (nI b) ∧ (b = 0 ↔ rgt (mk (h.1 75 0) (h.1 76) (h.1 78) (rfF (h.1 79) i pl o) (rfS (h.1 80) i pl o)) N (h.1 77) = true) ∧ b < 2 ^ 31 := by
    intro g e75 e76 e77 e78 e79 e80
    have w2 : WM N M g := by
      unfold WM
      rw [e75, e76, e78, e79, e80]
      obtain ⟨w1, w2, w3, w4, w5, w6, w7⟩ := w
      refine ⟨w1, w2, w3, w4, w5, w6, fun j hj => ?_⟩
      by_cases e : j = i
      · rw [e]; exact hlw
      · refine Lw.eq rfl ?_ ?_ (w7 j hj)
        · unfold rfF
          split
          · exact (upd_ne _ _ e).symm
          · rfl
        · unfold rfS
          split
          · rfl
          · exact (upd_ne _ _ e).symm
    refine ⟨_, wrong_eqM w2, ?_, Nat.lt_trans (bs_lt _ N) (Nat.pow_lt_pow_right (by decide) (by omega))⟩
    have : wrM g = fun j => !decide (h.1 77 j = mk (h.1 75 0) (h.1 76) (h.1 78) (rfF (h.1 79) i pl o) (rfS (h.1 80) i pl o) (h.1 77) j) := by
      funext j
      unfold wrM mM
      rw [e75, e76, e77, e78, e79, e80]
    rw [this]
    unfold rgt
    rw [decide_eq_true_eq]
  unfold fX12_doesWith
  simp only [g20, if_false]
  rw [nI_clamp (by omega)]
  refine letT_case (fun v2 hv2 => letT_case (fun v4 hv4 => letT_case (fun J6 hJ6 => ?_)))
  have fin : ∀ (g : AH) (b : Nat), fX12_wrong g = some (nI b) → (b = 0 ↔ rgt (mk (h.1 75 0) (h.1 76) (h.1 78) (rfF (h.1 79) i pl o) (rfS (h.1 80) i pl o)) N (h.1 77) = true) → b < 2 ^ 31 → sI (sI g 79 i v2) 80 i v4 = h → J6 g = some (if rgt (mk (h.1 75 0) (h.1 76) (h.1 78) (rfF (h.1 79) i pl o) (rfS (h.1 80) i pl o)) N (h.1 77) then 1 else 0, h) := by
    intro g b e1 e2 e3 e4
    rw [hJ6]
    dsimp only
    rw [e1, ob]
    dsimp only [letT]
    rw [e4]
    by_cases b0 : b = 0
    · rw [if_pos (by rw [b0]; rfl), e2.mp b0]
      rfl
    · rw [if_neg (show ¬ nI b = 0 from ne_lit (j := 0) e3 (by decide) b0), Bool.eq_false_iff.mpr (fun q => b0 (e2.mpr q))]
      rfl
  by_cases p0 : pl = 0
  · subst p0
    rw [if_pos (show nI 0 = 0 from rfl)]
    refine letT_case (fun g21 hg21 => ?_)
    rw [hg21]
    obtain ⟨b, b1, b2, b3⟩ := wr (sI h 79 i (nI o)) rfl rfl rfl rfl (by rw [sI_at]; rfl) rfl
    refine fin _ b b1 b2 b3 ?_
    rw [hv2, hv4, sI_back]
    exact sI_same rfl
  · have p1 : pl = 1 := by omega
    subst p1
    rw [if_neg (show ¬ nI 1 = 0 by decide)]
    refine letT_case (fun g19 hg19 => ?_)
    rw [hg19]
    obtain ⟨b, b1, b2, b3⟩ := wr (sI h 80 i (nI o)) rfl rfl rfl rfl rfl (by rw [sI_at]; rfl)
    refine fin _ b b1 b2 b3 ?_
    have : sI (sI h 80 i (nI o)) 79 i v2 = sI h 80 i (nI o) := sI_same hv2.symm
    rw [this, hv4, sI_back]
def rfM (N : Nat) (m : Int32) (A K F S C : Rw) (c : Nat) : Bool := rfV K F S (c / 40) (c / 20 % 2) (c % 20) && rgt (mk m A K (rfF F (c / 40) (c / 20 % 2) (c % 20)) (rfS S (c / 40) (c / 20 % 2) (c % 20))) N C
theorem referredM {N M : Nat} {h : AH} (w : WM N M h) (p : Nat) (hp : p ≤ 3) (hw : ¬ bs (wrM h) N = 0) : mo_referred (nI p) h = (if p = 0 then some (nI (ct (rfM N (h.1 75 0) (h.1 76) (h.1 78) (h.1 79) (h.1 80) (h.1 77)) (40 * N)), h) else match fst (rfM N (h.1 75 0) (h.1 76) (h.1 78) (h.1 79) (h.1 80) (h.1 77)) 0 (40 * N) with | none => some (-2, h) | some c => some (if p = 1 then nI (c / 40) else if p = 2 then nI (c / 20 % 2) else nI (c % 20), h)) := by
  have hN := w.N
  unfold mo_referred fX12_referred
  rw [in_yes (nI_pos (by omega)) (show ¬ (3 : Int32) < nI p from nI_nlt (a := 3) (by omega) (by decide)), if_neg (by decide), wrong_eqM w, ob, if_neg (bs_nz hN hw)]
  let K : Int32 → Int32 → AH → Option (Int32 × AH) := fun y28 y29 g30 => if nI p = 0 then some (y28, g30) else if y29 = (-1 : Int32) then some ((-2 : Int32), g30) else if nI p = (1 : Int32) then some (y29 / (40 : Int32), g30) else if nI p = (2 : Int32) then some (jrem (y29 / (20 : Int32)) (2 : Int32), g30) else some (jrem y29 (20 : Int32), g30)
  show fX12_referred_l25 K (nI p) fuel0 0 (-1) 0 h = _
  have d40 : ∀ c, c < 2 ^ 31 → nI c / 40 = nI (c / 40) := fun c hc => nI_div (d := 40) hc (by decide) (by decide)
  have d20 : ∀ c, c < 2 ^ 31 → nI c / 20 = nI (c / 20) := fun c hc => nI_div (d := 20) hc (by decide) (by decide)
  have r2 : ∀ c, c < 2 ^ 31 → jrem (nI c) 2 = nI (c % 2) := fun c hc => jrem_nI (d := 2) hc (by decide) (by decide)
  have r20 : ∀ c, c < 2 ^ 31 → jrem (nI c) 20 = nI (c % 20) := fun c hc => jrem_nI (d := 20) hc (by decide) (by decide)
  have key := mf_loop' (F := fun n many first x => fX12_referred_l25 K (nI p) n many first x h) (rfM N (h.1 75 0) (h.1 76) (h.1 78) (h.1 79) (h.1 80) (h.1 77)) (40 * N) (by omega) (fun many first => K many first h) (fun n c many first hc => by
      show fX12_referred_l25b (fX12_referred_l25 K (nI p) n) K (nI p) many first (nI c) h = _
      unfold fX12_referred_l25b
      have hi : c / 40 < N := by omega
      have g := gd (show c / 40 < 20 by omega) (by decide)
      rw [w.1, show (40 : Int32) * nI N = nI (40 * N) from nI_mul 40 N, if_pos (nI_lt hc (by omega)), d40 c (by omega), d20 c (by omega), r2 _ (by omega), r20 _ (by omega), nI_1]
      dsimp only [letT]
      simp only [g, if_false]
      rw [nI_clamp (by omega)]
      unfold rfM
      generalize hii : c / 40 = i at hi g ⊢
      generalize hpp : c / 20 % 2 = pl
      generalize hoo : c % 20 = o
      have hpl : pl < 2 := by omega
      have ho : o < 20 := by omega
      by_cases k0 : h.1 78 i = 0
      · rw [if_pos k0, if_neg (by unfold rfV; simp [k0])]
      rw [if_neg k0]
      have e1 : (nI pl = 1) = (pl = 1) := by
        apply propext
        exact ⟨fun q => (nI_eq (by omega) (by decide)).mp (show nI pl = nI 1 from q), fun q => by rw [q]; rfl⟩
      have e0 : (nI pl = 0) = (pl = 0) := by
        apply propext
        exact ⟨fun q => (nI_eq (by omega) (by decide)).mp (show nI pl = nI 0 from q), fun q => by rw [q]; rfl⟩
      have elt : (nI o < nI i) = (o < i) := propext (nI_ltI (by omega) (by omega))
      by_cases hv : rfV (h.1 78) (h.1 79) (h.1 80) i pl o = true
      · rw [doesWith_eq w hi hpl hv, ob, hv, Bool.true_and]
        have hv2 := hv
        unfold rfV at hv2
        simp only [Bool.and_eq_true, Bool.not_eq_true', Bool.or_eq_true, decide_eq_true_eq, decide_eq_false_iff_not] at hv2
        obtain ⟨⟨⟨-, h1⟩, h2⟩, h3⟩ := hv2
        have step : (if (if rgt (mk (h.1 75 0) (h.1 76) (h.1 78) (rfF (h.1 79) i pl o) (rfS (h.1 80) i pl o)) N (h.1 77) = true then (1 : Int32) else 0) = 0 then fX12_referred_l25 K (nI p) n many first (nI (c + 1)) h else if first = -1 then fX12_referred_l25 K (nI p) n (many + 1) (nI c) (nI (c + 1)) h else fX12_referred_l25 K (nI p) n (many + 1) first (nI (c + 1)) h) = (if rgt (mk (h.1 75 0) (h.1 76) (h.1 78) (rfF (h.1 79) i pl o) (rfS (h.1 80) i pl o)) N (h.1 77) = true then fX12_referred_l25 K (nI p) n (many + 1) (if first = -1 then nI c else first) (nI (c + 1)) h else fX12_referred_l25 K (nI p) n many first (nI (c + 1)) h) := by
          cases rgt (mk (h.1 75 0) (h.1 76) (h.1 78) (rfF (h.1 79) i pl o) (rfS (h.1 80) i pl o)) N (h.1 77) with
          | false => rfl
          | true =>
            by_cases f : first = -1
            · simp only [if_true, d10, if_false, f]
            · simp only [if_true, d10, if_false, f]
        dsimp only
        rw [step]
        by_cases p0 : pl = 0
        · subst p0
          rw [if_pos rfl] at h3
          simp only [e1, e0, elt, h2, h3, if_true, if_false, show ¬ (0 : Nat) = 1 by decide]
        · have p1 : pl = 1 := by omega
          subst p1
          rw [if_neg (by decide)] at h3
          have h1 := h1.resolve_left p0
          simp only [e1, e0, elt, h1, h2, h3, if_true, if_false, show ¬ (1 : Nat) = 0 by decide]
      · rw [Bool.eq_false_iff.mpr hv, Bool.false_and]
        simp only [reduceCtorEq, if_false]
        unfold rfV at hv
        simp only [Bool.and_eq_true, Bool.not_eq_true', Bool.or_eq_true, decide_eq_true_eq, decide_eq_false_iff_not, not_and, Decidable.not_not] at hv
        by_cases p0 : pl = 0
        · subst p0
          simp only [e1, e0, elt, if_true, if_false, show ¬ (0 : Nat) = 1 by decide]
          by_cases h2 : o < i
          · rw [if_pos h2, if_pos (by simpa using hv ⟨⟨k0, Or.inl rfl⟩, h2⟩)]
          · rw [if_neg h2]
        · have p1 : pl = 1 := by omega
          subst p1
          simp only [e1, e0, elt, if_true, if_false, show ¬ (1 : Nat) = 0 by decide]
          by_cases h1 : h.1 80 i < 0
          · rw [if_pos h1]
          · rw [if_neg h1]
            by_cases h2 : o < i
            · rw [if_pos h2, if_pos (by simpa using hv ⟨⟨k0, Or.inr h1⟩, h2⟩)]
            · rw [if_neg h2]) (fun n many first => by
      show fX12_referred_l25b (fX12_referred_l25 K (nI p) n) K (nI p) many first (nI (40 * N)) h = _
      unfold fX12_referred_l25b
      rw [w.1, show (40 : Int32) * nI N = nI (40 * N) from nI_mul 40 N, if_neg (nI_nlt (Nat.le_refl _) (by omega))])
  refine key.trans ?_
  show (if nI p = 0 then _ else _) = _
  by_cases p0 : p = 0
  · rw [if_pos p0, if_pos (by rw [p0]; rfl)]
  · rw [if_neg p0, if_neg (show ¬ nI p = 0 from ne_lit (j := 0) (by omega) (by decide) p0)]
    cases hf : fst (rfM N (h.1 75 0) (h.1 76) (h.1 78) (h.1 79) (h.1 80) (h.1 77)) 0 (40 * N) with
    | none => rfl
    | some c =>
      have hc := (fst_some hf).2.1
      rw [show ans (some c) = nI c from rfl, if_neg (fun q => nI_pos (n := c) (by omega) (by rw [q]; decide)), d40 c (by omega), d20 c (by omega), r2 _ (by omega), r20 _ (by omega)]
      by_cases p1 : p = 1
      · rw [if_pos (by rw [p1]; rfl)]
        simp [p1]
      · rw [if_neg (show ¬ nI p = 1 from ne_lit (j := 1) (by omega) (by decide) p1)]
        by_cases p2 : p = 2
        · rw [if_pos (by rw [p2]; rfl)]
          simp [p2]
        · rw [if_neg (show ¬ nI p = 2 from ne_lit (j := 2) (by omega) (by decide) p2)]
          simp [p1, p2]
theorem bs_single {p : Nat → Bool} {N i : Nat} (hi : i < N) : bs p N = 2 ^ i ↔ ∀ j, j < N → p j = decide (j = i) := by
  constructor
  · intro h j hj
    have h1 := bs_bit p N j
    rw [h, Nat.testBit_two_pow] at h1
    simp only [hj, decide_true, Bool.true_and] at h1
    rw [← h1]
    exact decide_eq_decide.mpr ⟨Eq.symm, Eq.symm⟩
  · intro h
    apply Nat.eq_of_testBit_eq
    intro j
    rw [bs_bit, Nat.testBit_two_pow]
    by_cases hj : j < N
    · rw [h j hj]
      simp only [hj, decide_true, Bool.true_and]
      exact decide_eq_decide.mpr ⟨Eq.symm, Eq.symm⟩
    · have : ¬ i = j := by omega
      simp [hj, this]
theorem rf_same {N M x c : Nat} {h : AH} (H : ScN N M x h) (hc : c < 40 * N) (hw : ¬ bs (wrX h) N = 0) : rfQ (h.1 3 0) (h.1 4) (h.1 8) (h.1 9) (h.1 10) (h.1 7) (bs (wrX h) N) c = rfM N (h.1 75 0) (h.1 76) (h.1 78) (h.1 79) (h.1 80) (h.1 77) c := by
  have hi : c / 40 < N := by omega
  have hpl : c / 20 % 2 < 2 := by omega
  unfold rfQ rfM
  generalize c / 40 = i at hi ⊢
  generalize c / 20 % 2 = pl at hpl ⊢
  generalize c % 20 = o
  obtain ⟨rC, rK, rF, rS⟩ := H.rows hi
  have eV : rfV (h.1 8) (h.1 9) (h.1 10) i pl o = rfV (h.1 78) (h.1 79) (h.1 80) i pl o := by
    unfold rfV
    rw [rK, rF, rS]
  rw [← eV]
  cases hv : rfV (h.1 8) (h.1 9) (h.1 10) i pl o with
  | false => simp
  | true =>
    simp only [Bool.true_and]
    have wX := H.WX.2.2.2.2.2.2
    have eM : ∀ j, j < N → mk (h.1 75 0) (h.1 76) (h.1 78) (rfF (h.1 79) i pl o) (rfS (h.1 80) i pl o) (h.1 77) j = mk (h.1 3 0) (h.1 4) (h.1 8) (rfF (h.1 9) i pl o) (rfS (h.1 10) i pl o) (h.1 7) j := by
      intro j hj
      have hlj : Lw (h.1 8) (rfF (h.1 9) i pl o) (rfS (h.1 10) i pl o) j := by
        by_cases e : j = i
        · rw [e]; exact rf_Lw (wX i hi) hpl hv
        · refine Lw.eq rfl ?_ ?_ (wX j hj)
          · unfold rfF
            split
            · exact (upd_ne _ _ e).symm
            · rfl
          · unfold rfS
            split
            · rfl
            · exact (upd_ne _ _ e).symm
      obtain ⟨sC, sK, sF, sS⟩ := H.rows hj
      rw [H.eM, ← H.eX, mk_row hlj (H.C.le (by omega))]
      refine (mk_wds (H.2.2.2.2.2.2.2.1) sK ?_ ?_ hlj).symm
      · unfold rfF
        split
        · by_cases e : j = i
          · rw [e, upd_at, upd_at]
          · rw [upd_ne _ _ e, upd_ne _ _ e]; exact sF
        · exact sF
      · unfold rfS
        split
        · exact sS
        · by_cases e : j = i
          · rw [e, upd_at, upd_at]
          · rw [upd_ne _ _ e, upd_ne _ _ e]; exact sS
    have eO : ∀ j, j < N → j ≠ i → mk (h.1 3 0) (h.1 4) (h.1 8) (rfF (h.1 9) i pl o) (rfS (h.1 10) i pl o) (h.1 7) j = mX h (h.1 7) j := by
      intro j hj e
      unfold mX mk
      have f1 : rfF (h.1 9) i pl o j = h.1 9 j := by
        unfold rfF
        split
        · exact upd_ne _ _ e
        · rfl
      have f2 : rfS (h.1 10) i pl o j = h.1 10 j := by
        unfold rfS
        split
        · rfl
        · exact upd_ne _ _ e
      rw [f1, f2]
    rw [Bool.eq_iff_iff, rgt_iff, Bool.and_eq_true, decide_eq_true_eq, decide_eq_true_eq, bs_single hi]
    constructor
    · rintro ⟨a, b⟩ j hj
      rw [eM j hj, ← (H.rows hj).1]
      by_cases e : j = i
      · rw [e]; exact b
      · rw [eO j hj e]
        have := a j hj
        unfold wrX at this
        simp only [e, decide_false, Bool.not_eq_false', decide_eq_true_eq] at this
        exact this
    · intro a
      have a' : ∀ j, j < N → h.1 7 j = mk (h.1 3 0) (h.1 4) (h.1 8) (rfF (h.1 9) i pl o) (rfS (h.1 10) i pl o) (h.1 7) j := fun j hj => by
        rw [(H.rows hj).1, a j hj, eM j hj]
      have right : ∀ j, j < N → j ≠ i → wrX h j = false := fun j hj e => by
        unfold wrX
        have := a' j hj
        rw [eO j hj e] at this
        simp [← this]
      refine ⟨fun j hj => ?_, a' i hi⟩
      by_cases e : j = i
      · subst e
        simp only [decide_true]
        cases hq : wrX h j with
        | true => rfl
        | false =>
          exfalso
          apply hw
          rw [bs_zero]
          intro k hk
          by_cases e : k = j
          · rw [e]; exact hq
          · exact right k hk e
      · rw [right j hj e]
        simp [e]
theorem st_referred (q : Int32) {h : AH} (I : Inv h) : St (xo_referred q) (mo_referred q) h := by
  obtain ⟨⟨N, M, x, H⟩, -⟩ := id I
  have hN := H.N
  rcases what_cases (k := 3) (by decide) q with ⟨p, hp, rfl⟩ | hq
  · by_cases hw : bs (wrX h) N = 0
    · refine St.ro (r := -1) I ?_ .rf ?_ .rf
      · unfold xo_referred fX11_referred
        rw [if_neg (nI_pos (by omega)), if_neg (show ¬ (3 : Int32) < nI p from nI_nlt (a := 3) (by omega) (by decide)), wrongLines_eq H.WX, ob, hw, if_pos (by rfl)]
      · unfold mo_referred fX12_referred
        rw [in_yes (nI_pos (by omega)) (show ¬ (3 : Int32) < nI p from nI_nlt (a := 3) (by omega) (by decide)), if_neg (by decide), wrong_eqM H.WM, ob, ← bs_cong H.wr, hw, if_pos (by rfl)]
    · obtain ⟨h1, r, eX, c, f⟩ := referredX H p hp hw
      have H1 := H.core c
      have hw1 : ¬ bs (wrX h1) N = 0 := by rw [wrX_core c (N := N) (M := M) (x := x)]; exact hw
      have eM := referredM H1.WM p hp (by rw [← bs_cong H1.wr]; exact hw1)
      have eQ : ∀ c', c' < 40 * N → rfM N (h1.1 75 0) (h1.1 76) (h1.1 78) (h1.1 79) (h1.1 80) (h1.1 77) c' = rfQ (h.1 3 0) (h.1 4) (h.1 8) (h.1 9) (h.1 10) (h.1 7) (bs (wrX h) N) c' := fun c' hc' => by
        rw [← rf_same H1 hc' hw1, wrX_core c (N := N) (M := M) (x := x), c.C 3 (by decide), c.C 4 (by decide), c.C 8 (by decide), c.C 9 (by decide), c.C 10 (by decide), c.C 7 (by decide)]
      rw [ct_cong eQ, fst_cong (fun i _ hi => eQ i (by omega))] at eM
      obtain ⟨a0, a1, a2, a3⟩ := f.ask
      generalize rfQ (h.1 3 0) (h.1 4) (h.1 8) (h.1 9) (h.1 10) (h.1 7) (bs (wrX h) N) = Q at eM a0 a1 a2 a3
      by_cases p0 : p = 0
      · rw [if_pos p0] at eM
        rw [p0, a0, ← p0] at eX
        exact St.ro I eX c eM .rf
      · rw [if_neg p0] at eM
        have hr : r p = (match fst Q 0 (40 * N) with | none => -2 | some c => if p = 1 then nI (c / 40) else if p = 2 then nI (c / 20 % 2) else nI (c % 20)) := by
          by_cases p1 : p = 1
          · subst p1
            rw [a1]
            cases fst Q 0 (40 * N) <;> rfl
          · by_cases p2 : p = 2
            · subst p2
              rw [a2]
              cases fst Q 0 (40 * N) <;> rfl
            · have p3 : p = 3 := by omega
              subst p3
              rw [a3]
              cases fst Q 0 (40 * N) <;> rfl
        rw [hr] at eX
        cases hf : fst Q 0 (40 * N) with
        | none => rw [hf] at eX eM; exact St.ro I eX c eM .rf
        | some d => rw [hf] at eX eM; exact St.ro I eX c eM .rf
  · refine St.ro (r := -1) I ?_ .rf ?_ .rf
    · unfold xo_referred fX11_referred
      rcases hq with h1 | ⟨h1, h2⟩
      · rw [if_pos h1]
      · rw [if_neg h1, if_pos (show (3 : Int32) < q from h2)]
    · unfold mo_referred fX12_referred
      rw [in_no (p := q) (a := 0) (b := 3) (hq.imp id (fun z => z.2)), if_pos rfl]
