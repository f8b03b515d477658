def pop (s : Nat) : Nat := ct s.testBit 20
def sbs (s P : Nat) : Bool := decide (nI s &&& (nI P ^^^ -1) = 0)
theorem sbs_iff {s P : Nat} : sbs s P = true ↔ ∀ i, i < 32 → s.testBit i = true → P.testBit i = true := by
  unfold sbs
  rw [decide_eq_true_iff]
  constructor
  · intro h i hi hs
    have e : bt (nI s &&& (nI P ^^^ -1)) i = bt 0 i := by rw [h]
    rw [b_and, b_xor, b_m1 i hi, b_0, bt_nI hi, bt_nI hi, hs] at e
    cases hp : P.testBit i with
    | true => rfl
    | false => rw [hp] at e; exact absurd e (by decide)
  · intro h
    refine b_ext (fun i hi => ?_)
    rw [b_and, b_xor, b_m1 i hi, b_0, bt_nI hi, bt_nI hi]
    cases hs : s.testBit i with
    | false => rfl
    | true => rw [h i hi hs]; rfl
theorem tb_big {s i k : Nat} (hs : s < 2 ^ k) (hi : k ≤ i) : s.testBit i = false := Nat.testBit_lt_two_pow (Nat.lt_of_lt_of_le hs (Nat.pow_le_pow_right (by decide) hi))
theorem sbs_le {s P : Nat} (hs : s < 2 ^ 20) (h : sbs s P = true) : s ≤ P := by
  rw [sbs_iff] at h
  have e : s &&& P = s := Nat.eq_of_testBit_eq (fun i => by
    rw [Nat.testBit_and]
    cases hb : s.testBit i with
    | false => rfl
    | true =>
      by_cases hi : i < 32
      · rw [h i hi hb]; rfl
      · rw [tb_big hs (by omega)] at hb; cases hb)
  rw [← e]
  exact Nat.and_le_right
theorem pop_le {s : Nat} (hs : s < 1024) : pop s ≤ 10 := by
  unfold pop
  rw [ct_more (n := 10) (fun i hi => tb_big (k := 10) hs hi) 10]
  exact ct_le _ 10
theorem bits_eq {s : Nat} (g : AH) : fX12_bits (nI s) g = some (nI (pop s)) := by
  unfold fX12_bits
  have k := for_up (F := fun m xx (a : Nat) => fX12_bits_l4 (nI s) g m (nI a) xx) (fun i a => a + (s.testBit i).toNat) (fun a => some (nI a)) 20 (by decide) (fun i a => a = ct s.testBit i) (fun m i a hi hI => by
      refine ⟨?_, by rw [ct_succ, hI]⟩
      show fX12_bits_l4b (fX12_bits_l4 (nI s) g m) (nI s) g (nI a) (nI i) = _
      unfold fX12_bits_l4b
      rw [if_pos (show nI i < 20 from nI_lt (b := 20) hi (by decide)), nI_1]
      dsimp only [letT]
      obtain ⟨h1, h2⟩ := shr1 (nI s) (show i < 32 by omega)
      rw [bt_nI (by omega)] at h1 h2
      cases hb : s.testBit i with
      | false =>
        rw [h1.mpr hb, Int32.add_zero]
        rfl
      | true =>
        rw [h2.mpr hb, nI_1]
        rfl) (fun m a _ => by
      show fX12_bits_l4b (fX12_bits_l4 (nI s) g m) (nI s) g (nI a) (nI 20) = _
      unfold fX12_bits_l4b
      rw [if_neg (by decide)]) fuel0 0 0 (by omega) (by have := fuel_big; omega) rfl
  rw [Nat.sub_zero] at k
  refine Eq.trans k.1 ?_
  rw [k.2]
  rfl
/-- one set more: the best so far -/
def rst (P : Nat) (Tg : Nat → Bool) (s : Nat) (o : Option Nat) : Option Nat := if sbs s P && (o.elim true (fun b => decide (pop s < pop b))) && Tg s then some s else o
def rbest (P : Nat) (Tg : Nat → Bool) (k : Nat) : Option Nat := itf (rst P Tg) 0 k none
theorem rbest_succ {P : Nat} {Tg : Nat → Bool} {k : Nat} : rbest P Tg (k + 1) = rst P Tg k (rbest P Tg k) := by
  unfold rbest
  rw [itf_last, Nat.zero_add]
theorem rbest_lt {P : Nat} {Tg : Nat → Bool} : ∀ {k b : Nat}, rbest P Tg k = some b → b < k := by
  intro k
  induction k with
  | zero => intro b h; cases h
  | succ k ih =>
    intro b h
    rw [rbest_succ] at h
    unfold rst at h
    split at h
    · have := Option.some.inj h; omega
    · have := ih h; omega
theorem rbest_all {P : Nat} {Tg : Nat → Bool} {k : Nat} (hk : P + 1 ≤ k) (h20 : k ≤ 2 ^ 20) : rbest P Tg k = rbest P Tg (P + 1) := by
  induction k with
  | zero => omega
  | succ k ih =>
    by_cases e : k = P
    · rw [e]
    · rw [rbest_succ, ih (by omega) (by omega)]
      have : sbs k P = false := by
        cases hb : sbs k P with
        | false => rfl
        | true => have := sbs_le (by omega) hb; omega
      unfold rst
      rw [this]
      rfl
theorem rbest_cong {P k : Nat} {T T' : Nat → Bool} (h : ∀ s, s < k → sbs s P = true → T s = T' s) : rbest P T k = rbest P T' k := by
  unfold rbest
  refine itf_cong (fun s o _ hs => ?_)
  unfold rst
  cases hb : sbs s P with
  | false => rfl
  | true => rw [h s (by omega) hb]
theorem readers67 {N M x P : Nat} {h g : AH} {R : Nat → Int32} {p2 : Int32} {K : Int32 → Int32 → Option (Int32 × AH)} (H : ScN N M x h) (c : Core h g) (hP : P < 1024) (e51 : ∀ i, i < 10 → g.1 51 i = R i) : fX11_readers_l67 K (nI P) p2 g fuel0 (-2) 11 0 = K ((rbest P (fun s => decide (tog R (nI s) = jshl 1 (nI N) - 1)) (P + 1)).elim (-2) nI) ((rbest P (fun s => decide (tog R (nI s) = jshl 1 (nI N) - 1)) (P + 1)).elim 11 (fun b => nI (pop b))) := by
  generalize hTg : (fun s => decide (tog R (nI s) = jshl 1 (nI N) - 1)) = Tg
  have k := for_up (F := fun m xx (o : Option Nat) => fX11_readers_l67 K (nI P) p2 g m (o.elim (-2) nI) (o.elim 11 (fun b => nI (pop b))) xx) (rst P Tg) (fun o => K (o.elim (-2) nI) (o.elim 11 (fun b => nI (pop b)))) (P + 1) (by omega) (fun s o => o = rbest P Tg s) (fun m s o hs hI => by
      refine ⟨?_, by rw [rbest_succ, hI]⟩
      have ob' : ∀ b, o = some b → b < s := fun b hb => rbest_lt (hI ▸ hb)
      show fX11_readers_l67b (fX11_readers_l67 K (nI P) p2 g m) K (nI P) p2 g (o.elim (-2) nI) (o.elim 11 (fun b => nI (pop b))) (nI s) = _
      unfold fX11_readers_l67b
      rw [if_neg (nI_nlt (by omega) (by omega)), bitCount_eq (by omega), readAll_eq H c e51, ob, nI_1]
      dsimp only [letT]
      have ep : ct s.testBit 20 = pop s := rfl
      rw [ep]
      have hps := pop_le (s := s) (by omega)
      have hlt : (nI (pop s) < o.elim 11 (fun b => nI (pop b))) ↔ (o.elim true (fun b => decide (pop s < pop b))) = true := by
        cases ho : o with
        | none => exact ⟨fun _ => rfl, fun _ => nI_lt (b := 11) (by omega) (by decide)⟩
        | some b =>
          have hpb := pop_le (s := b) (by have := ob' b ho; omega)
          show nI (pop s) < nI (pop b) ↔ decide (pop s < pop b) = true
          rw [decide_eq_true_iff]
          constructor
          · intro a
            by_cases q : pop s < pop b
            · exact q
            · exact absurd a (nI_nlt (by omega) (by omega))
          · intro a
            exact nI_lt a (by omega)
      have eTg : Tg s = decide (tog R (nI s) = jshl 1 (nI N) - 1) := by rw [← hTg]
      unfold rst
      rw [eTg]
      by_cases a1 : nI s &&& (nI P ^^^ -1) = 0
      · have b1 : sbs s P = true := decide_eq_true a1
        rw [if_pos a1, b1]
        by_cases a2 : nI (pop s) < o.elim 11 (fun b => nI (pop b))
        · have b2 := hlt.mp a2
          rw [if_pos a2, b2]
          by_cases a3 : tog R (nI s) = jshl 1 (nI N) - 1
          · rw [if_pos a3, if_neg (by decide), decide_eq_true a3]
            rfl
          · rw [if_neg a3, if_pos rfl, decide_eq_false a3]
            rfl
        · have b2 : (o.elim true (fun b => decide (pop s < pop b))) = false := by
            cases hb : (o.elim true (fun b => decide (pop s < pop b))) with
            | false => rfl
            | true => exact absurd (hlt.mpr hb) a2
          rw [if_neg a2, b2]
          rfl
      · have b1 : sbs s P = false := decide_eq_false a1
        rw [if_neg a1, b1]
        rfl) (fun m o _ => by
      show fX11_readers_l67b (fX11_readers_l67 K (nI P) p2 g m) K (nI P) p2 g (o.elim (-2) nI) (o.elim 11 (fun b => nI (pop b))) (nI (P + 1)) = _
      unfold fX11_readers_l67b
      rw [if_pos (nI_lt (by omega) (by omega))]) fuel0 0 none (by omega) (by have := fuel_big; omega) rfl
  rw [Nat.sub_zero] at k
  refine Eq.trans k.1 ?_
  rw [k.2]
theorem readers52 {N M x P : Nat} {h g : AH} {R : Nat → Int32} {p2 : Int32} {K : Int32 → Option (Int32 × AH)} (H : ScN N M x h) (c : Core h g) (hP : P < 1024) (e104 : ∀ i, i < 10 → g.1 104 i = R i) : fX12_readers_l52 K (nI P) p2 g fuel0 (-1) 0 = K ((rbest P (fun s => decide (tog R (nI s) = jshl 1 (nI N) - 1)) 1024).elim (-1) nI) := by
  generalize hTg : (fun s => decide (tog R (nI s) = jshl 1 (nI N) - 1)) = Tg
  have k := for_up (F := fun m xx (o : Option Nat) => fX12_readers_l52 K (nI P) p2 g m (o.elim (-1) nI) xx) (rst P Tg) (fun o => K (o.elim (-1) nI)) 1024 (by decide) (fun s o => o = rbest P Tg s) (fun m s o hs hI => by
      refine ⟨?_, by rw [rbest_succ, hI]⟩
      have ob' : ∀ b, o = some b → b < s := fun b hb => rbest_lt (hI ▸ hb)
      show fX12_readers_l52b (fX12_readers_l52 K (nI P) p2 g m) K (nI P) p2 g (o.elim (-1) nI) (nI s) = _
      unfold fX12_readers_l52b
      have eA : fX12_allLines g = jshl 1 (nI N) - 1 := by
        unfold fX12_allLines
        rw [(H.core c).sM]
      rw [if_pos (show nI s < 1024 from nI_lt (b := 1024) hs (by decide)), together_eq e104, ob, eA, nI_1]
      dsimp only [letT]
      rw [bits_eq, ob]
      have hps := pop_le (s := s) hs
      have eTg : Tg s = decide (tog R (nI s) = jshl 1 (nI N) - 1) := by rw [← hTg]
      unfold rst
      rw [eTg]
      by_cases a1 : nI s &&& (nI P ^^^ -1) = 0
      · have b1 : sbs s P = true := decide_eq_true a1
        rw [if_pos a1, b1]
        cases ho : o with
        | none =>
          rw [if_pos (show (none : Option Nat).elim (-1 : Int32) nI = -1 from rfl)]
          by_cases a3 : tog R (nI s) = jshl 1 (nI N) - 1
          · rw [if_pos a3, decide_eq_true a3]
            rfl
          · rw [if_neg a3, decide_eq_false a3]
            rfl
        | some b =>
          have hb := ob' b ho
          have hpb := pop_le (s := b) (by omega)
          rw [if_neg (show ¬ (some b).elim (-1 : Int32) nI = -1 from fun q => nI_pos (n := b) (by omega) (by rw [show (some b).elim (-1 : Int32) nI = nI b from rfl] at q; rw [q]; decide)), show (some b).elim (-1 : Int32) nI = nI b from rfl, bits_eq, ob]
          show (if nI (pop s) < nI (pop b) then _ else _) = _
          by_cases a2 : pop s < pop b
          · rw [if_pos (nI_lt a2 (by omega))]
            have : ((some b).elim true (fun b => decide (pop s < pop b))) = true := decide_eq_true a2
            rw [this]
            by_cases a3 : tog R (nI s) = jshl 1 (nI N) - 1
            · rw [if_pos a3, decide_eq_true a3]
              rfl
            · rw [if_neg a3, decide_eq_false a3]
              rfl
          · rw [if_neg (nI_nlt (by omega) (by omega))]
            have : ((some b).elim true (fun b => decide (pop s < pop b))) = false := decide_eq_false a2
            rw [this]
            rfl
      · have b1 : sbs s P = false := decide_eq_false a1
        rw [if_neg a1, b1]
        rfl) (fun m o _ => by
      show fX12_readers_l52b (fX12_readers_l52 K (nI P) p2 g m) K (nI P) p2 g (o.elim (-1) nI) (nI 1024) = _
      unfold fX12_readers_l52b
      rw [if_neg (by decide)]) fuel0 0 none (by omega) (by have := fuel_big; omega) rfl
  rw [Nat.sub_zero] at k
  refine Eq.trans k.1 ?_
  rw [k.2]
