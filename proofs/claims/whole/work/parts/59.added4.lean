/-! ===== added: the model ===== -/
theorem pb_y {P : Prop} (h : pb P = true) : P := @of_decide_eq_true P (Classical.propDecidable P) h
def EncS (g : AH) (l : List Nat) : Prop := g.1 75 49 = nI l.length ∧ ∀ q s, l[q]? = some s → g.1 105 q = nI s
theorem addsShow_eq {g : AH} {l : List Nat} {s : Nat} (E : EncS g l) (hl : l.length < 1940) (hb : ∀ t ∈ l, t < 2 ^ 20) (hs : s < 2 ^ 20) : ∃ g', fX12_addsShow (nI s) g = some g' ∧ EncS g' (adl l 0 s) ∧ Core g g' ∧ g'.1 87 = g.1 87 := by
  obtain ⟨e1, e2⟩ := E
  unfold fX12_addsShow
  have k := for_fst (F := fun m xx => fX12_addsShow_l2 (if (g.1 75 49) < 0 ∨ 1940 ≤ (g.1 75 49).toNatClampNeg then none else letT (sI g 105 (g.1 75 49).toNatClampNeg (nI s)) (fun g5 => letT (sI g5 75 49 ((g5.1 75 49) + (1 : Int32))) (fun g6 => some g6))) (nI s) g m xx) (inF l s) (fun _ => some g) (some (sI (sI g 105 l.length (nI s)) 75 49 (nI (l.length + 1)))) l.length (by omega) (fun m i hi => by
      show fX12_addsShow_l2b (fX12_addsShow_l2 _ (nI s) g m) _ (nI s) g (nI i) = _
      unfold fX12_addsShow_l2b
      obtain ⟨t, ht⟩ : ∃ t, l[i]? = some t := ⟨l[i], List.getElem?_eq_getElem hi⟩
      have tb := hb t (List.mem_of_getElem? ht)
      rw [e1, if_pos (nI_lt hi (by omega)), if_neg (gd (show i < 1940 by omega) (by decide)), nI_clamp (by omega), e2 i t ht, nI_1]
      unfold inF
      rw [ht]
      by_cases e : t = s
      · rw [if_pos (by rw [e]), if_pos (show decide (some t = some s) = true by rw [e]; simp)]
      · rw [if_neg (ne_lit (by omega) (by omega) e), if_neg (show ¬ decide (some t = some s) = true by simpa using e)]) (fun m => by
      show fX12_addsShow_l2b (fX12_addsShow_l2 _ (nI s) g m) _ (nI s) g (nI l.length) = _
      unfold fX12_addsShow_l2b
      rw [e1, if_neg (nI_nlt (Nat.le_refl _) (by omega)), if_neg (gd hl (by decide)), nI_clamp (by omega)]
      dsimp only [letT]
      rw [show (sI g 105 l.length (nI s)).1 75 49 = nI l.length from e1, nI_1]) fuel0 0 (Nat.zero_le _) (by have := fuel_big; omega)
  rw [Nat.sub_zero] at k
  rw [e1] at k
  unfold adl
  rw [e1, Nat.sub_zero]
  cases hf : fst (inF l s) 0 l.length with
  | some j =>
    rw [hf] at k
    exact ⟨g, k, ⟨e1, e2⟩, .rf, rfl⟩
  | none =>
    rw [hf] at k
    refine ⟨_, k, ⟨?_, fun q t hq => ?_⟩, (Core.sR (h := g) (a := 105) rfl).tr (Core.sI (a := 75) (j := 49) rfl), rfl⟩
    · show nI (l.length + 1) = nI (l ++ [s]).length
      rw [List.length_append]
      rfl
    · show upd (g.1 105) l.length (nI s) q = nI t
      by_cases e : q = l.length
      · rw [e, upd_at]
        simp only [Option.isNone, if_true] at hq
        rw [e, List.getElem?_append_right (Nat.le_refl _), Nat.sub_self] at hq
        rw [← Option.some.inj hq]
      · rw [upd_ne _ _ e]
        simp only [Option.isNone, if_true] at hq
        by_cases lt : q < l.length
        · rw [List.getElem?_append_left lt] at hq
          exact e2 q t hq
        · have : (l ++ [s]).length ≤ q := by rw [List.length_append]; simp only [List.length_cons, List.length_nil]; omega
          rw [List.getElem?_eq_none this] at hq
          cases hq
def ColM (O : Nat → Nat → Bool) (S : Nat → Nat → Nat) (M : Nat) (l : List Nat) (c : Nat) : Prop := l.length ≤ c ∧ ∀ s, s ∈ l ↔ ∃ d, d < c ∧ O (d / M) (d % M) = true ∧ S (d / M) (d % M) = s
theorem ColM.skip {O : Nat → Nat → Bool} {S : Nat → Nat → Nat} {M c : Nat} {l : List Nat} (C : ColM O S M l c) (h : O (c / M) (c % M) = false) : ColM O S M l (c + 1) := by
  refine ⟨by have := C.1; omega, fun s => ?_⟩
  rw [C.2 s]
  constructor
  · rintro ⟨u, a, b, d⟩; exact ⟨u, by omega, b, d⟩
  · rintro ⟨u, a, b, d⟩
    by_cases e : u = c
    · rw [e, h] at b; cases b
    · exact ⟨u, by omega, b, d⟩
theorem ColM.add {O : Nat → Nat → Bool} {S : Nat → Nat → Nat} {M c : Nat} {l : List Nat} (C : ColM O S M l c) (h : O (c / M) (c % M) = true) : ColM O S M (adl l 0 (S (c / M) (c % M))) (c + 1) := by
  have c1 := C.1
  unfold adl
  rw [Nat.sub_zero]
  cases hf : fst (inF l (S (c / M) (c % M))) 0 l.length with
  | some q =>
    obtain ⟨f1, f2, f3, -⟩ := fst_some hf
    unfold inF at f3
    rw [decide_eq_true_eq] at f3
    simp only [Option.isNone, Bool.false_eq_true, if_false]
    refine ⟨by omega, fun s => ?_⟩
    rw [C.2 s]
    constructor
    · rintro ⟨u, a, b, d⟩; exact ⟨u, by omega, b, d⟩
    · rintro ⟨u, a, b, d⟩
      by_cases e : u = c
      · rw [e] at d
        rw [d] at f3
        exact (C.2 s).mp (List.mem_of_getElem? f3)
      · exact ⟨u, by omega, b, d⟩
  | none =>
    simp only [Option.isNone, if_true]
    refine ⟨by rw [List.length_append]; simp only [List.length_cons, List.length_nil]; omega, fun s => ?_⟩
    rw [List.mem_append, C.2 s, List.mem_singleton]
    constructor
    · rintro (⟨u, a, b, d⟩ | rfl)
      · exact ⟨u, by omega, b, d⟩
      · exact ⟨c, by omega, h, rfl⟩
    · rintro ⟨u, a, b, d⟩
      by_cases e : u = c
      · rw [e] at d; exact Or.inr d.symm
      · exact Or.inl ⟨u, by omega, b, d⟩
theorem added80 {N x1 : Nat} {a1 a2 a3 : Int32} {g : AH} {K : Int32 → Option (Int32 × AH)} (hs : g.1 75 2 = nI N) (hN : N ≤ 20) : fX12_added_l80 K a1 a2 a3 g fuel0 0 0 = K (nI (bs (df (g.1 88) (g.1 87)) N)) := by
  have key := for_up0 (F := fun m x s => fX12_added_l80 K a1 a2 a3 g m (nI s) x) (fun k s => if df (g.1 88) (g.1 87) k then s ||| 2 ^ k else s) (fun s => K (nI s)) N (by omega) (fun m k s hk => by
      show fX12_added_l80b (fX12_added_l80 K a1 a2 a3 g m) K a1 a2 a3 g (nI s) (nI k) = _
      unfold fX12_added_l80b
      have gk := gd (show k < 20 by omega) (by decide)
      rw [hs, if_pos (nI_lt hk (by omega)), if_neg gk, if_neg gk, nI_clamp (by omega), nI_1]
      by_cases e : g.1 88 k = g.1 87 k
      · rw [if_pos e, if_neg (by simp [df, e])]
      · rw [if_neg e, if_pos (by simp [df, e]), or_bit (by omega)]
        rfl) (fun m s => by
      show fX12_added_l80b (fX12_added_l80 K a1 a2 a3 g m) K a1 a2 a3 g (nI s) (nI N) = _
      unfold fX12_added_l80b
      rw [hs, if_neg (nI_nlt (Nat.le_refl _) (by omega))]) fuel0 0 0 (by omega) (by have := fuel_big; omega)
  rw [Nat.sub_zero, bs_itf] at key
  exact key
theorem code_at {M i v : Nat} (hv : v < M) : (i * M + v) / M = i ∧ (i * M + v) % M = v := by
  have h0 : 0 < M := by omega
  constructor
  · rw [Nat.mul_comm, Nat.mul_add_div h0, Nat.div_eq_of_lt hv, Nat.add_zero]
  · rw [Nat.mul_comm, Nat.mul_add_mod, Nat.mod_eq_of_lt hv]
theorem added39 {N M i : Nat} {h g : AH} {T : Rw} {p : Int32} {K : AH → Option (Int32 × AH)} {l : List Nat} (w : WM N M h) (hi : i < N) (c : Core h g) (e87 : g.1 87 = T) (E : EncS g l) (C : ColM (bnO (mM h) N T) (bnS (mM h) N T) M l (i * M)) :
    ∃ g' l', fX12_added_l39 K p (nI i) fuel0 0 g = K g' ∧ Core h g' ∧ g'.1 87 = T ∧ EncS g' l' ∧ ColM (bnO (mM h) N T) (bnS (mM h) N T) M l' (i * M + M) := by
  have hN := w.N
  obtain ⟨-, hm, m1, m2, -⟩ := w.2
  obtain ⟨s, e, c', e87', l', E', C'⟩ := for_ex (F := fun m xx s => fX12_added_l39 K p (nI i) m xx s) K M (by omega) (fun v s => Core h s ∧ s.1 87 = T ∧ ∃ l, EncS s l ∧ ColM (bnO (mM h) N T) (bnS (mM h) N T) M l (i * M + v)) (fun m v s hv hI => by
      obtain ⟨c, e87, l, E, C⟩ := hI
      have wg := w.core c
      have eO := code_at (i := i) hv
      show ∃ s', fX12_added_l39b (fX12_added_l39 K p (nI i) m) K p (nI i) (nI v) s = _ ∧ _
      unfold fX12_added_l39b
      have g20 := gd (show i < 20 by omega) (by decide)
      rw [c.P 75 0 (by decide), hm, if_pos (nI_lt hv (by omega)), if_neg g20, nI_clamp (by omega), e87, nI_1]
      by_cases z : nI v = T i
      · rw [if_pos z]
        refine ⟨s, rfl, c, e87, l, E, C.skip ?_⟩
        rw [eO.1, eO.2]
        unfold bnO
        simp [z]
      · rw [if_neg z]
        obtain ⟨r, er, qr⟩ := slips_eq (a := 87) (b := 88) (v := nI v) wg (by unfold offM; omega) (by decide) (by decide) (by decide) hi
        rw [mM_core c, e87] at qr
        have hsz : (sR s 88 r).1 75 2 = nI N := wg.1
        have e87' : (sR s 88 r).1 87 = T := by rw [sR_ne _ _ (by decide), e87]
        have c3 : Core h (sR s 88 r) := c.tr (Core.sR rfl)
        rw [er, ob, added80 (x1 := 0) hsz hN, sR_at, e87', hsz, nI_sub1 (by omega), has_bt _ (show N - 1 < 32 by omega), bt_nI (by omega)]
        have eS : bs (df r T) N = bnS (mM h) N T i v := bs_cong (fun k hk => df_cong qr eqOn.rf k hk)
        rw [eS]
        cases hb : (bnS (mM h) N T i v).testBit (N - 1) with
        | true =>
          rw [if_neg ite_t0]
          refine ⟨_, rfl, c3, e87', l, E, C.skip ?_⟩
          rw [eO.1, eO.2]
          unfold bnO
          rw [hb]
          simp
        | false =>
          have ho : bnO (mM h) N T i v = true := by unfold bnO; rw [hb]; simp [z]
          rw [if_pos ite_f0]
          have b1 : l.length < 1940 := by
            have := C.1
            have hh : i * M ≤ 19 * 97 := Nat.mul_le_mul (by omega) m2
            omega
          obtain ⟨g', a1, a2, a3, a4⟩ := addsShow_eq (g := sR s 88 r) (l := l) (s := bnS (mM h) N T i v) E b1 (fun t ht => by
            obtain ⟨d, -, -, z⟩ := (C.2 t).mp ht
            rw [← z]
            exact bnS_lt hN) (bnS_lt hN)
          rw [a1, ob]
          refine ⟨g', rfl, c3.tr a3, a4.trans e87', _, a2, ?_⟩
          have := C.add (by rw [eO.1, eO.2]; exact ho)
          rw [eO.1, eO.2] at this
          exact this) (fun m s hI => by
      show fX12_added_l39b (fX12_added_l39 K p (nI i) m) K p (nI i) (nI M) s = _
      unfold fX12_added_l39b
      rw [hI.1.P 75 0 (by decide), hm, if_neg (nI_nlt (Nat.le_refl _) (by omega))]) fuel0 0 g (by omega) (by have := fuel_big; omega) ⟨c, e87, l, E, C⟩
  exact ⟨s, l', e, c', e87', E', C'⟩
theorem seesAll_eq {g : AH} {l : List Nat} {r : Nat} (E : EncS g l) (hl : l.length ≤ 1940) (hb : ∀ t ∈ l, t < 2 ^ 20) : fX12_seesAll (nI r) g = some (if pb (∀ t ∈ l, ¬ (t &&& r = 0)) then 1 else 0) := by
  obtain ⟨e1, e2⟩ := E
  unfold fX12_seesAll
  have k := for_fst (F := fun m xx => fX12_seesAll_l2 (nI r) g m xx) (fun q => decide (l.getD q 0 &&& r = 0)) (fun _ => some (0 : Int32)) (some (1 : Int32)) l.length (by omega) (fun m i hi => by
      show fX12_seesAll_l2b (fX12_seesAll_l2 (nI r) g m) (nI r) g (nI i) = _
      unfold fX12_seesAll_l2b
      obtain ⟨t, ht⟩ : ∃ t, l[i]? = some t := ⟨l[i], List.getElem?_eq_getElem hi⟩
      have tb := hb t (List.mem_of_getElem? ht)
      rw [e1, if_pos (nI_lt hi (by omega)), if_neg (gd (show i < 1940 by omega) (by decide)), nI_clamp (by omega), e2 i t ht, nI_1, List.getD_eq_getElem?_getD, ht, Option.getD_some]
      by_cases z : t &&& r = 0
      · rw [if_pos ((nI_and0 tb).mpr z), decide_eq_true z]; rfl
      · rw [if_neg (fun q => z ((nI_and0 tb).mp q)), decide_eq_false z]; rfl) (fun m => by
      show fX12_seesAll_l2b (fX12_seesAll_l2 (nI r) g m) (nI r) g (nI l.length) = _
      unfold fX12_seesAll_l2b
      rw [e1, if_neg (nI_nlt (Nat.le_refl _) (by omega))]) fuel0 0 (Nat.zero_le _) (by have := fuel_big; omega)
  rw [Nat.sub_zero] at k
  refine Eq.trans k ?_
  cases hf : fst (fun q => decide (l.getD q 0 &&& r = 0)) 0 l.length with
  | some j =>
    obtain ⟨-, f2, f3, -⟩ := fst_some hf
    rw [decide_eq_true_eq] at f3
    have f2' : j < l.length := by omega
    rw [pb_f (fun q => q (l.getD j 0) (by rw [List.getD_eq_getElem?_getD, List.getElem?_eq_getElem f2']; exact List.getElem_mem f2') f3)]
    rfl
  | none =>
    have f := fst_none hf
    rw [pb_t (fun t ht z => by
      obtain ⟨q, hq⟩ := List.mem_iff_getElem?.mp ht
      have := f q (Nat.zero_le _) (by have := (List.getElem?_eq_some_iff.mp hq).1; omega)
      rw [List.getD_eq_getElem?_getD, hq, Option.getD_some, decide_eq_true z] at this
      cases this)]
    rfl
theorem sbs_full {s N : Nat} (h : s < 2 ^ N) : sbs s (2 ^ N - 1) = true := by
  rw [sbs_iff]
  intro i hi hb
  rw [Nat.testBit_two_pow_sub_one]
  by_cases a : i < N
  · simp [a]
  · rw [tb_big h (by omega)] at hb; cases hb
theorem added162 {N M : Nat} {h g : AH} {p : Int32} {l : List Nat} {K : Int32 → Int32 → Option (Int32 × AH)} (w : WM N M h) (c : Core h g) (E : EncS g l) (hl : l.length ≤ 1940) (hb : ∀ t ∈ l, t < 2 ^ 20) : fX12_added_l162 K p g fuel0 (-1) 1000000000 0 = K ((rbest (2 ^ N - 1) (fun r => pb (∀ t ∈ l, ¬ (t &&& r = 0))) (2 ^ N)).elim (-1) nI) ((rbest (2 ^ N - 1) (fun r => pb (∀ t ∈ l, ¬ (t &&& r = 0))) (2 ^ N)).elim 1000000000 (fun b => nI (pop b))) := by
  have hN := w.N
  have two20 : 2 ^ N ≤ 2 ^ 20 := Nat.pow_le_pow_right (by decide) hN
  have two0 := Nat.two_pow_pos N
  generalize hTg : (fun r => pb (∀ t ∈ l, ¬ (t &&& r = 0))) = Tg
  have eA : fX12_allLines g = nI (2 ^ N - 1) := by
    unfold fX12_allLines
    rw [(w.core c).1, bit_nI (by omega), nI_sub1 two0]
  have k := for_up (F := fun m xx (o : Option Nat) => fX12_added_l162 K p g m (o.elim (-1) nI) (o.elim 1000000000 (fun b => nI (pop b))) xx) (rst (2 ^ N - 1) Tg) (fun o => K (o.elim (-1) nI) (o.elim 1000000000 (fun b => nI (pop b)))) (2 ^ N) (by omega) (fun s o => o = rbest (2 ^ N - 1) Tg s) (fun m s o hs hI => by
      refine ⟨?_, by rw [rbest_succ, hI]⟩
      show fX12_added_l162b (fX12_added_l162 K p g m) K p g (o.elim (-1) nI) (o.elim 1000000000 (fun b => nI (pop b))) (nI s) = _
      unfold fX12_added_l162b
      rw [eA, if_neg (nI_nlt (by omega) (by omega)), bits_eq, ob, seesAll_eq E hl hb, ob, ob, nI_1]
      have eTg : Tg s = pb (∀ t ∈ l, ¬ (t &&& s = 0)) := by rw [← hTg]
      rw [← eTg]
      unfold rst
      rw [sbs_full hs, Bool.true_and]
      have hps := pop_20 s
      have hlt : (nI (pop s) < o.elim 1000000000 (fun b => nI (pop b))) ↔ (o.elim true (fun b => decide (pop s < pop b))) = true := by
        cases ho : o with
        | none => exact ⟨fun _ => rfl, fun _ => nI_lt (b := 1000000000) (by omega) (by decide)⟩
        | some b =>
          have hpb := pop_20 b
          show nI (pop s) < nI (pop b) ↔ decide (pop s < pop b) = true
          rw [decide_eq_true_iff]
          constructor
          · intro a
            by_cases q : pop s < pop b
            · exact q
            · exact absurd a (nI_nlt (by omega) (by omega))
          · intro a
            exact nI_lt a (by omega)
      by_cases a2 : nI (pop s) < o.elim 1000000000 (fun b => nI (pop b))
      · rw [if_pos a2, hlt.mp a2, Bool.true_and]
        cases Tg s <;> rfl
      · have b2 : (o.elim true (fun b => decide (pop s < pop b))) = false := by
          cases hb : (o.elim true (fun b => decide (pop s < pop b))) with
          | false => rfl
          | true => exact absurd (hlt.mpr hb) a2
        rw [if_neg a2, b2]
        rfl) (fun m o _ => by
      show fX12_added_l162b (fX12_added_l162 K p g m) K p g (o.elim (-1) nI) (o.elim 1000000000 (fun b => nI (pop b))) (nI (2 ^ N)) = _
      unfold fX12_added_l162b
      rw [eA, if_pos (nI_lt (by omega) (by omega))]) fuel0 0 none (by omega) (by have := fuel_big; omega) rfl
  rw [Nat.sub_zero] at k
  refine Eq.trans k.1 ?_
  rw [k.2]
theorem addedM {N M p A : Nat} {h : AH} (w : WM N M h) (h0 : 0 < N) (hp : p ≤ 1) (hA : Lst (fun r => ∀ i v, i < N → v < M → bnO (mM h) N (wk (mM h) 0 N (h.1 87)) i v = true → ¬ (bnS (mM h) N (wk (mM h) 0 N (h.1 87)) i v &&& r = 0)) (N - 1) A) : ∃ h1, mo_added (nI p) h = some (if p = 0 then nI (pop A) else nI A, h1) ∧ Core h h1 := by
  have hN := w.N
  obtain ⟨-, hm, m1, m2, -⟩ := w.2
  unfold mo_added fX12_added
  rw [in_yes (nI_pos (by omega)) (show ¬ (1 : Int32) < nI p from nI_nlt (a := 1) (by omega) (by omega)), if_neg (by decide), w.1, if_neg (show ¬ nI N = 0 from ne_lit (j := 0) (by omega) (by decide) (by omega)), laysTruth_eq w, ob]
  generalize wk (mM h) 0 N (h.1 87) = T at hA
  dsimp only [letT]
  have c1 : Core h (sI (sR h 87 T) 75 49 0) := (Core.sR (h := h) (a := 87) rfl).tr (Core.sI (a := 75) (j := 49) rfl)
  obtain ⟨s, e, c', e87', l, E, C⟩ := for_ex (F := fun m xx s => fX12_added_l29 (fun (g22 : AH) => fX12_added_l162 (fun (y32 : Int32) (y33 : Int32) => if nI p = 0 then some (y33, g22) else some (y32, g22)) (nI p) g22 fuel0 (-1 : Int32) (1000000000 : Int32) (0 : Int32)) (nI p) m xx s) (fun (g22 : AH) => fX12_added_l162 (fun (y32 : Int32) (y33 : Int32) => if nI p = 0 then some (y33, g22) else some (y32, g22)) (nI p) g22 fuel0 (-1 : Int32) (1000000000 : Int32) (0 : Int32)) N (by omega) (fun i s => Core h s ∧ s.1 87 = T ∧ ∃ l, EncS s l ∧ ColM (bnO (mM h) N T) (bnS (mM h) N T) M l (i * M)) (fun m i s hi hI => by
      obtain ⟨c, e87, l, E, C⟩ := hI
      show ∃ s', fX12_added_l29b (fX12_added_l29 _ (nI p) m) _ (nI p) (nI i) s = _ ∧ _
      unfold fX12_added_l29b
      obtain ⟨g', l', a1, a2, a3, a4, a5⟩ := added39 (p := nI p) (K := fun g21 => fX12_added_l29 (fun (g22 : AH) => fX12_added_l162 (fun (y32 : Int32) (y33 : Int32) => if nI p = 0 then some (y33, g22) else some (y32, g22)) (nI p) g22 fuel0 (-1 : Int32) (1000000000 : Int32) (0 : Int32)) (nI p) m (nI i + 1) g21) w hi c e87 E C
      rw [c.P 75 2 (by decide), w.1, if_pos (nI_lt hi (by omega)), a1, nI_1]
      exact ⟨g', rfl, a2, a3, l', a4, by rw [Nat.succ_mul]; exact a5⟩) (fun m s hI => by
      show fX12_added_l29b (fX12_added_l29 _ (nI p) m) _ (nI p) (nI N) s = _
      unfold fX12_added_l29b
      rw [hI.1.P 75 2 (by decide), w.1, if_neg (nI_nlt (Nat.le_refl _) (by omega))]) fuel0 0 (sI (sR h 87 T) 75 49 0) (by omega) (by have := fuel_big; omega) ⟨c1, sR_at h 87 T, [], ⟨rfl, fun q s hq => by cases hq⟩, by
        refine ⟨Nat.zero_le _, fun s => ⟨fun q => (by cases q), fun ⟨d, hd, _⟩ => ?_⟩⟩
        rw [Nat.zero_mul] at hd
        exact absurd hd (Nat.not_lt_zero _)⟩
  have hlen : l.length ≤ 1940 := by
    have := C.1
    have hh : N * M ≤ 20 * 97 := Nat.mul_le_mul hN m2
    omega
  have hb : ∀ t ∈ l, t < 2 ^ 20 := fun t ht => by
    obtain ⟨d, -, -, z⟩ := (C.2 t).mp ht
    rw [← z]
    exact bnS_lt hN
  have same : ∀ r, (∀ t ∈ l, ¬ (t &&& r = 0)) ↔ ∀ i v, i < N → v < M → bnO (mM h) N T i v = true → ¬ (bnS (mM h) N T i v &&& r = 0) := fun r => by
    constructor
    · intro hc i v hi hv ho
      have eO := code_at (i := i) hv
      refine hc _ ((C.2 _).mpr ⟨i * M + v, ?_, by rw [eO.1, eO.2]; exact ho, by rw [eO.1, eO.2]⟩)
      have : i * M + M ≤ N * M := by rw [← Nat.succ_mul]; exact Nat.mul_le_mul_right M hi
      omega
    · intro hc t ht
      obtain ⟨d, hd, ho, z⟩ := (C.2 t).mp ht
      rw [← z]
      have h1 : d / M < N := Nat.div_lt_of_lt_mul (by rw [Nat.mul_comm]; exact hd)
      exact hc _ _ h1 (Nat.mod_lt _ (by omega)) ho
  obtain ⟨L1, L2, L3⟩ := hA
  have hj : N - 1 + 1 = N := by omega
  have A20 : A < 2 ^ N := Nat.lt_of_lt_of_le L1 (Nat.pow_le_pow_right (by decide) (by omega))
  have best : rbest (2 ^ N - 1) (fun r => pb (∀ t ∈ l, ¬ (t &&& r = 0))) (2 ^ N) = some A := by
    refine rbest_is A20 (sbs_full A20) (pb_t ((same A).mpr L2)) (fun s hs _ hsee => ?_)
    have hsee' : ∀ t ∈ l, ¬ (t &&& s = 0) := pb_y hsee
    have h2 := (same s).mp hsee'
    rw [← hj] at hs
    rcases two_cases hs with a | ⟨Y, hY, rfl⟩
    · exact L3 s a h2
    · have hYc : ∀ i v, i < N → v < M → bnO (mM h) N T i v = true → ¬ (bnS (mM h) N T i v &&& Y = 0) := fun i v hi hv ho => by
        obtain ⟨k, x, y⟩ := and_nz.mp (h2 i v hi hv ho)
        obtain ⟨-, -, -, b4⟩ := bnS_ok hi ho
        rw [and_nz]
        refine ⟨k, x, ?_⟩
        rw [Nat.testBit_or, Nat.testBit_two_pow] at y
        by_cases ek : N - 1 = k
        · rw [tb_big b4 (by omega)] at x; cases x
        · simpa [ek] using y
      have := L3 Y hY hYc
      rw [pop_or hY (by omega)]
      omega
  refine ⟨s, e.trans ?_, c'⟩
  rw [added162 w c' E hlen hb, best]
  dsimp only [Option.elim]
  by_cases z : p = 0
  · rw [z, if_pos (show nI 0 = 0 from rfl), if_pos rfl]
  · rw [if_neg (show ¬ nI p = 0 from ne_lit (j := 0) (by omega) (by decide) z), if_neg z]
theorem Lst_ex {P : Nat → Prop} {L : Nat} (hL : L ≤ 20) (h : ∃ X, X < 2 ^ L ∧ P X) : ∃ A, Lst P L A := by
  obtain ⟨m1, m2⟩ := rbest_min (P := 2 ^ L - 1) (Tg := fun s => pb (P s)) (k := 2 ^ L)
  cases ho : rbest (2 ^ L - 1) (fun s => pb (P s)) (2 ^ L) with
  | none =>
    obtain ⟨X, hX, hP⟩ := h
    exact (m2 ho X hX (sbs_full hX) (pb_t hP)).elim
  | some A =>
    obtain ⟨a1, a2, a3, a4⟩ := m1 A ho
    exact ⟨A, a1, pb_y a3, fun X hX hP => a4 X hX (sbs_full hX) (pb_t hP)⟩
theorem st_added (p : Int32) {h : AH} (I : Inv h) : St (xo_added p) (mo_added p) h := by
  obtain ⟨⟨N, M, x, H⟩, -⟩ := id I
  have hN := H.N
  by_cases c1 : p < 0
  · refine St.ro (r := -1) I ?_ .rf ?_ .rf
    · unfold xo_added fX11_added
      rw [if_pos c1]
    · unfold mo_added fX12_added
      rw [in_no (Or.inl c1), if_pos rfl]
  by_cases c2 : (1 : Int32) < p
  · refine St.ro (r := -1) I ?_ .rf ?_ .rf
    · unfold xo_added fX11_added
      rw [if_neg c1, if_pos c2]
    · unfold mo_added fX12_added
      rw [in_no (Or.inr c2), if_pos rfl]
  by_cases h0 : N = 0
  · subst h0
    refine St.ro (r := -1) I ?_ .rf ?_ .rf
    · unfold xo_added fX11_added
      rw [if_neg c1, if_neg c2, H.sX, if_pos (show nI 0 = 0 from rfl)]
    · unfold mo_added fX12_added
      rw [in_yes c1 c2, if_neg (by decide), H.sM, if_pos (show nI 0 = 0 from rfl)]
  obtain ⟨w, hw0, rfl⟩ := nI_of c1
  have w1 : w ≤ 1 := by
    by_cases a : w ≤ 1
    · exact a
    · exact absurd (nI_lt (a := 1) (b := w) (by omega) hw0) c2
  obtain ⟨A, hA⟩ := Lst_ex (P := fun r => ∀ i v, i < N → v < M → bnO (mX h) N (wk (mX h) 0 N (h.1 63)) i v = true → ¬ (bnS (mX h) N (wk (mX h) 0 N (h.1 63)) i v &&& r = 0)) (L := N - 1) (by omega) ⟨2 ^ (N - 1) - 1, by have := Nat.two_pow_pos (N - 1); omega, fun i v hi hv ho => by
    obtain ⟨b1, b2, b3, b4⟩ := bnS_ok hi ho
    rw [and_nz]
    exact ⟨i, b2, by rw [Nat.testBit_two_pow_sub_one]; simp [b1]⟩⟩
  obtain ⟨h1, e1, d1⟩ := addedX H (by omega) w1 hA
  have hT : eqOn N (wk (mX h) 0 N (h.1 63)) (wk (mM h1) 0 N (h1.1 87)) := by rw [mM_core d1]; exact H.tr _ _
  have hm : ∀ i, i < N → ∀ r r', eqOn i r r' → mX h r i = mM h1 r' i := fun i hi r r' e => by rw [mM_core d1]; exact H.same hi e
  have eS : ∀ i v, i < N → bnS (mM h1) N (wk (mM h1) 0 N (h1.1 87)) i v = bnS (mX h) N (wk (mX h) 0 N (h.1 63)) i v := fun i v hi => (bnS_cong hm hi hT).symm
  have eO : ∀ i v, i < N → bnO (mM h1) N (wk (mM h1) 0 N (h1.1 87)) i v = bnO (mX h) N (wk (mX h) 0 N (h.1 63)) i v := fun i v hi => (bnO_cong hm hi hT).symm
  have same : ∀ r, (∀ i v, i < N → v < M → bnO (mM h1) N (wk (mM h1) 0 N (h1.1 87)) i v = true → ¬ (bnS (mM h1) N (wk (mM h1) 0 N (h1.1 87)) i v &&& r = 0)) ↔ ∀ i v, i < N → v < M → bnO (mX h) N (wk (mX h) 0 N (h.1 63)) i v = true → ¬ (bnS (mX h) N (wk (mX h) 0 N (h.1 63)) i v &&& r = 0) := fun r => by
    constructor
    · intro q i v hi hv ho
      rw [← eS i v hi]
      exact q i v hi hv (by rw [eO i v hi]; exact ho)
    · intro q i v hi hv ho
      rw [eS i v hi]
      exact q i v hi hv (by rw [← eO i v hi]; exact ho)
  obtain ⟨h2, e2, d2⟩ := addedM (A := A) (H.core d1).WM (by omega) w1 ⟨hA.1, (same A).mpr hA.2.1, fun X hX hP => hA.2.2 X hX ((same X).mp hP)⟩
  exact St.ro I e1 d1 e2 d2
