/-! ===== anew ===== -/
theorem bs_tb {s N : Nat} (h : s < 2 ^ N) : bs s.testBit N = s := Nat.eq_of_testBit_eq (fun i => by
  rw [bs_bit]
  by_cases a : i < N
  · simp [a]
  · rw [tb_big h (by omega)]; simp)
theorem pop_bs {p : Nat → Bool} {N : Nat} (hN : N ≤ 20) : pop (bs p N) = ct p N := by
  unfold pop
  have e := ct_more (p := (bs p N).testBit) (n := N) (fun i hi => tb_big (bs_lt p N) hi) (20 - N)
  rw [show N + (20 - N) = 20 by omega] at e
  rw [e]
  exact ct_cong (fun i hi => by rw [bs_bit]; simp [hi])
def mayP (hb : Nat → Nat → Bool) (s N P k : Nat) : Bool := (stn hb s (fun _ => false) N).testBit k && !P.testBit k && !decide (stn hb k (fun _ => false) N &&& P = 0)
theorem stn20 {hb : Nat → Nat → Bool} {s N : Nat} {ax : Nat → Bool} (hN : N ≤ 20) : stn hb s ax N < 2 ^ 20 := Nat.lt_of_lt_of_le (stn_lt N) (Nat.pow_le_pow_right (by decide) hN)
theorem anew45 {N M x i P : Nat} {h : AH} {p3 : Int32} {K : Int32 → Option Int32} (H : ScN N M x h) (hi : i < N) : fX12_anew_l45 K (nI i) (nI P) p3 h fuel0 0 0 = K (nI (bs (mayP (hbX h) i N P) N)) := by
  have hN := H.N
  have key := for_up0 (F := fun m xx s => fX12_anew_l45 K (nI i) (nI P) p3 h m (nI s) xx) (fun k s => if mayP (hbX h) i N P k then s ||| 2 ^ k else s) (fun s => K (nI s)) N (by omega) (fun m k s hk => by
      show fX12_anew_l45b (fX12_anew_l45 K (nI i) (nI P) p3 h m) K (nI i) (nI P) p3 h (nI s) (nI k) = _
      unfold fX12_anew_l45b
      have e1 := standOn_eq (x2 := 0) H.WM hi
      have e2 := standOn_eq (x2 := 0) H.WM hk
      rw [H.stnE] at e1 e2
      rw [H.sM, if_pos (nI_lt hk (by omega)), e1, ob, has_bt _ (show k < 32 by omega), has_bt _ (show k < 32 by omega), bt_nI (by omega), bt_nI (by omega), e2, ob, nI_1]
      unfold mayP
      cases b1 : (stn (hbX h) i (fun _ => false) N).testBit k with
      | false => rw [if_pos ite_f0]; simp
      | true =>
        rw [if_neg ite_t0]
        cases b2 : P.testBit k with
        | true => rw [if_neg ite_t0]; simp
        | false =>
          rw [if_pos ite_f0]
          have nz := nI_and0 (a := stn (hbX h) k (fun _ => false) N) (b := P) (stn20 hN)
          by_cases z : stn (hbX h) k (fun _ => false) N &&& P = 0
          · rw [if_pos (nz.mpr z)]; simp [z]
          · rw [if_neg (fun q => z (nz.mp q))]
            dsimp only [letT]
            rw [or_bit (by omega)]
            simp [z]) (fun m s => by
      show fX12_anew_l45b (fX12_anew_l45 K (nI i) (nI P) p3 h m) K (nI i) (nI P) p3 h (nI s) (nI N) = _
      unfold fX12_anew_l45b
      rw [H.sM, if_neg (nI_nlt (Nat.le_refl _) (by omega))]) fuel0 0 0 (by omega) (by have := fuel_big; omega)
  rw [Nat.sub_zero, bs_itf] at key
  exact key
def dirP (hb : Nat → Nat → Bool) (i P j : Nat) : Bool := P.testBit j && hb j i
theorem anew107 {N M x i P : Nat} {h : AH} {p3 my : Int32} {K : Option Int32} (H : ScN N M x h) : fX12_anew_l107 K (nI i) (nI P) p3 my h fuel0 0 = (match fst (dirP (hbX h) i P) 0 N with | some _ => some (-2) | none => K) := by
  have hN := H.N
  have k := for_fst (F := fun m xx => fX12_anew_l107 K (nI i) (nI P) p3 my h m xx) (dirP (hbX h) i P) (fun _ => some (-2 : Int32)) K N (by omega) (fun m j hj => by
      show fX12_anew_l107b (fX12_anew_l107 K (nI i) (nI P) p3 my h m) K (nI i) (nI P) p3 my h (nI j) = _
      unfold fX12_anew_l107b
      rw [H.sM, if_pos (nI_lt hj (by omega)), has_bt _ (show j < 32 by omega), bt_nI (by omega), hasIt_eq (show j < 20 by omega), ob, ← H.hb hj i, nI_1]
      unfold dirP
      cases b1 : P.testBit j with
      | false => rw [if_pos ite_f0]; simp
      | true =>
        rw [if_neg ite_t0]
        cases b2 : hbX h j i with
        | false => rw [if_pos ite_f0]; simp
        | true => rw [if_neg ite_t0]; simp) (fun m => by
      show fX12_anew_l107b (fX12_anew_l107 K (nI i) (nI P) p3 my h m) K (nI i) (nI P) p3 my h (nI N) = _
      unfold fX12_anew_l107b
      rw [H.sM, if_neg (nI_nlt (Nat.le_refl _) (by omega))]) fuel0 0 (by omega) (by have := fuel_big; omega)
  rw [Nat.sub_zero] at k
  exact k
theorem anew53 {N M x i P : Nat} {h : AH} {p3 : Int32} {K : Option (Int32 × AH)} (H : ScN N M x h) (hi : i < N) : fX11_anew_l53 K (nI i) (nI P) p3 h fuel0 0 = (match fst (dirP (hbX h) i P) 0 N with | some _ => some (-2, h) | none => K) := by
  have hN := H.N
  have k := for_fst (F := fun m xx => fX11_anew_l53 K (nI i) (nI P) p3 h m xx) (dirP (hbX h) i P) (fun _ => some (-2, h)) K N (by omega) (fun m j hj => by
      show fX11_anew_l53b (fX11_anew_l53 K (nI i) (nI P) p3 h m) K (nI i) (nI P) p3 h (nI j) = _
      unfold fX11_anew_l53b
      rw [H.sX, if_pos (nI_lt hj (by omega)), isIn_bt _ (show j < 32 by omega), bt_nI (by omega), hasX_eq H.WX hj (show i < 1000 by omega), nI_1]
      unfold dirP
      cases b1 : P.testBit j with
      | false => rw [if_pos ite_f0]; simp
      | true =>
        rw [if_neg ite_t0]
        cases b2 : hbX h j i with
        | false => rw [if_pos ite_f0]; simp
        | true => rw [if_neg ite_t0]; simp) (fun m => by
      show fX11_anew_l53b (fX11_anew_l53 K (nI i) (nI P) p3 h m) K (nI i) (nI P) p3 h (nI N) = _
      unfold fX11_anew_l53b
      rw [H.sX, if_neg (nI_nlt (Nat.le_refl _) (by omega))]) fuel0 0 (by omega) (by have := fuel_big; omega)
  rw [Nat.sub_zero] at k
  exact k
def anT (hb : Nat → Nat → Bool) (i N P s : Nat) : Bool := decide (stn hb i s.testBit N &&& P = 0)
theorem anew150 {N M x i P Y : Nat} {h : AH} {p3 : Int32} {K : Int32 → Option Int32} (H : ScN N M x h) (hi : i < N) (hY : Y < 2 ^ 20) : fX12_anew_l150 K (nI i) (nI P) p3 (nI Y) h fuel0 (-1) 0 = K ((rbest Y (anT (hbX h) i N P) (Y + 1)).elim (-1) nI) := by
  have hN := H.N
  have k := for_up (F := fun m xx (o : Option Nat) => fX12_anew_l150 K (nI i) (nI P) p3 (nI Y) h m (o.elim (-1) nI) xx) (rst Y (anT (hbX h) i N P)) (fun o => K (o.elim (-1) nI)) (Y + 1) (by omega) (fun s o => o = rbest Y (anT (hbX h) i N P) s) (fun m s o hs hI => by
      refine ⟨?_, by rw [rbest_succ, hI]⟩
      have ob' : ∀ b, o = some b → b < s := fun b hb => rbest_lt (hI ▸ hb)
      show fX12_anew_l150b (fX12_anew_l150 K (nI i) (nI P) p3 (nI Y) h m) K (nI i) (nI P) p3 (nI Y) h (o.elim (-1) nI) (nI s) = _
      unfold fX12_anew_l150b
      have e1 := standOn_eq (x2 := nI s) H.WM hi
      have e2 : stn (hbM h) i (fun j => bt (nI s) j) N = stn (hbX h) i s.testBit N := stn_cong (fun j hj => ⟨fun k => (H.hb hj k).symm, bt_nI (by omega)⟩)
      rw [e2] at e1
      rw [if_neg (nI_nlt (by omega) (by omega)), e1, ob, nI_1]
      dsimp only [letT]
      have nz := nI_and0 (a := stn (hbX h) i s.testBit N) (b := P) (stn20 hN)
      have hps := pop_20 s
      have eJ : (if nI (stn (hbX h) i s.testBit N) &&& nI P = 0 then fX12_anew_l150 K (nI i) (nI P) p3 (nI Y) h m (nI s) (nI (s + 1)) else fX12_anew_l150 K (nI i) (nI P) p3 (nI Y) h m (o.elim (-1) nI) (nI (s + 1))) = fX12_anew_l150 K (nI i) (nI P) p3 (nI Y) h m ((if anT (hbX h) i N P s then some s else o).elim (-1) nI) (nI (s + 1)) := by
        unfold anT
        by_cases z : stn (hbX h) i s.testBit N &&& P = 0
        · rw [if_pos (nz.mpr z), if_pos (decide_eq_true z)]; rfl
        · rw [if_neg (fun q => z (nz.mp q)), if_neg (by simp [z])]
      rw [eJ]
      unfold rst
      by_cases a1 : nI s &&& (nI Y ^^^ -1) = 0
      · have b1 : sbs s Y = true := decide_eq_true a1
        rw [if_pos a1, b1]
        cases ho : o with
        | none =>
          rw [if_pos (show (none : Option Nat).elim (-1 : Int32) nI = -1 from rfl)]
          simp
        | some b =>
          have hb := ob' b ho
          have hpb := pop_20 b
          rw [if_neg (show ¬ (some b).elim (-1 : Int32) nI = -1 from fun q => nI_pos (n := b) (by omega) (by rw [show (some b).elim (-1 : Int32) nI = nI b from rfl] at q; rw [q]; decide)), show (some b).elim (-1 : Int32) nI = nI b from rfl, bits_eq, ob, bits_eq, ob]
          by_cases a2 : pop s < pop b
          · rw [if_pos (nI_lt a2 (by omega))]
            simp [a2]
          · rw [if_neg (nI_nlt (by omega) (by omega))]
            simp [a2]
      · have b1 : sbs s Y = false := decide_eq_false a1
        rw [if_neg a1, b1]
        simp) (fun m o _ => by
      show fX12_anew_l150b (fX12_anew_l150 K (nI i) (nI P) p3 (nI Y) h m) K (nI i) (nI P) p3 (nI Y) h (o.elim (-1) nI) (nI (Y + 1)) = _
      unfold fX12_anew_l150b
      rw [if_pos (nI_lt (by omega) (by omega))]) fuel0 0 none (by omega) (by have := fuel_big; omega) rfl
  rw [Nat.sub_zero] at k
  refine Eq.trans k.1 ?_
  rw [k.2]
theorem told_iff {N : Nat} (hN : N ≤ 20) (p : Int32) : (p &&& (nI (2 ^ N - 1) ^^^ -1) = 0) ↔ ∃ P, P < 2 ^ N ∧ p = nI P := by
  constructor
  · intro h
    obtain ⟨n, hn, rfl⟩ := of32 p
    refine ⟨n, Nat.lt_pow_two_of_testBit _ (fun j hj => ?_), rfl⟩
    by_cases lt : j < 32
    · have e : bt (nI n &&& (nI (2 ^ N - 1) ^^^ -1)) j = bt 0 j := by rw [h]
      rw [b_and, b_xor, b_m1 j lt, b_0, bt_nI lt, bt_nI lt, Nat.testBit_two_pow_sub_one] at e
      have : ¬ j < N := by omega
      simpa [this] using e
    · exact tb_big hn (by omega)
  · rintro ⟨P, hP, rfl⟩
    refine b_ext (fun j hj => ?_)
    rw [b_and, b_xor, b_m1 j hj, b_0, bt_nI hj, bt_nI hj, Nat.testBit_two_pow_sub_one]
    by_cases lt : j < N
    · simp [lt]
    · rw [tb_big hP (by omega)]; rfl
theorem st_anew (p q r : Int32) {h : AH} (I : Inv h) : St (xo_anew p q r) (mo_anew p q r) h := by
  obtain ⟨⟨N, M, x, H⟩, -⟩ := id I
  have hN := H.N
  have two0 := Nat.two_pow_pos N
  have two20 : 2 ^ N ≤ 2 ^ 20 := Nat.pow_le_pow_right (by decide) hN
  have eX : fX6_allLines h = nI (2 ^ N - 1) := by
    unfold fX6_allLines
    rw [H.sX]
    show jshl 1 (nI N) - 1 = _
    rw [bit_nI (by omega), nI_sub1 two0]
  have eM : fX12_allLines h = nI (2 ^ N - 1) := by
    unfold fX12_allLines
    rw [H.sM, bit_nI (by omega), nI_sub1 two0]
  have ref : xo_anew p q r h = some (-1, h) → fX12_anew p q r h = some (-1) → St (xo_anew p q r) (mo_anew p q r) h := fun a b => St.ro I a .rf (by unfold mo_anew; rw [b]; rfl) .rf
  rcases pl_cases (N := N) (by omega) p with ⟨i, hi, rfl⟩ | hp
  · by_cases cP : q &&& (nI (2 ^ N - 1) ^^^ -1) = 0
    · obtain ⟨P, hP, rfl⟩ := (told_iff hN q).mp cP
      have nq : ¬ nI P < 0 := nI_pos (by omega)
      have nq2 : ¬ nI (2 ^ N - 1) < nI P := nI_nlt (by omega) (by omega)
      have iX : fX11_isIn (nI P) (nI i) h = if P.testBit i then 1 else 0 := by rw [isIn_bt _ (show i < 32 by omega), bt_nI (by omega)]
      have iM : fX12_has (nI P) (nI i) h = if P.testBit i then 1 else 0 := by rw [has_bt _ (show i < 32 by omega), bt_nI (by omega)]
      cases bi : P.testBit i with
      | true =>
        rw [bi] at iX iM
        refine ref ?_ ?_
        · unfold xo_anew fX11_anew
          rw [holds_in H.sX hN hi, if_neg (by decide), eX, if_pos cP, iX, if_neg ite_t0]
        · unfold fX12_anew
          rw [isLine_in H.sM hN hi, if_neg (by decide), if_neg nq, eM, if_neg nq2, iM, if_neg ite_t0]
      | false =>
        rw [bi] at iX iM
        by_cases bad : r < 0 ∨ (1 : Int32) < r
        · refine ref ?_ ?_
          · unfold xo_anew fX11_anew
            rw [holds_in H.sX hN hi, if_neg (by decide), eX, if_pos cP, iX, if_pos ite_f0]
            by_cases r0 : r < 0
            · rw [if_pos r0]
            · rw [if_neg r0, if_pos (bad.resolve_left r0)]
          · unfold fX12_anew
            rw [isLine_in H.sM hN hi, if_neg (by decide), if_neg nq, eM, if_neg nq2, iM, if_pos ite_f0, in_no bad, if_pos rfl]
        · have r1 : ¬ r < 0 := fun a => bad (Or.inl a)
          have r2 : ¬ (1 : Int32) < r := fun a => bad (Or.inr a)
          have sX : ∀ {v : Int32 × AH}, fX11_anew_l53 ((fX3_leastCut (nI i) (nI P) h).bind (fun b9 => if r = 0 then some (fJ6_bitCount_0f7a4 b9.1 b9.2, b9.2) else some (b9.1, b9.2))) (nI i) (nI P) r h fuel0 (0 : Int32) = some v → xo_anew (nI i) (nI P) r h = some v := fun {v} e => by
            unfold xo_anew fX11_anew
            rw [holds_in H.sX hN hi, if_neg (by decide), eX, if_pos cP, iX, if_pos ite_f0, if_neg r1, if_neg r2]
            exact e
          have sM : ∀ {g : AH} {v : Int32} (c : Core h g), fX12_anew_l107 (fX12_anew_l150 (fun (y33 : Int32) => if y33 = (-1 : Int32) then some (-2 : Int32) else if r = 0 then (fX12_bits y33 g).bind (fun b36 => some b36) else some y33) (nI i) (nI P) r (nI (bs (mayP (hbX h) i N P) N)) g fuel0 (-1 : Int32) (0 : Int32)) (nI i) (nI P) r (nI (bs (mayP (hbX h) i N P) N)) g fuel0 (0 : Int32) = some v → mo_anew (nI i) (nI P) r g = some (v, g) := fun {g v} c e => by
            have Hg := H.core c
            have eMg : fX12_allLines g = nI (2 ^ N - 1) := by
              unfold fX12_allLines
              rw [Hg.sM, bit_nI (by omega), nI_sub1 two0]
            have iMg : fX12_has (nI P) (nI i) g = if false = true then 1 else 0 := by rw [has_bt _ (show i < 32 by omega), bt_nI (by omega), bi]
            have eh : hbX g = hbX h := by unfold hbX; rw [c.C 8 (by decide), c.C 9 (by decide), c.C 10 (by decide)]
            unfold mo_anew fX12_anew
            rw [isLine_in Hg.sM hN hi, if_neg (by decide), if_neg nq, eMg, if_neg nq2, iMg, if_pos ite_f0, in_yes r1 r2, if_neg (by decide), anew45 Hg hi, eh, e]
            rfl
          cases hd : fst (dirP (hbX h) i P) 0 N with
          | some j =>
            refine St.ro (r := -2) I (sX ?_) .rf (sM .rf ?_) .rf
            · rw [anew53 H hi, hd]
            · rw [anew107 H, hd]
          | none =>
            have gr : Gr (hbX h) i N P.testBit := ⟨hi, hN, bi, fun j k hj hk hh => hb_lt H hj (by omega) hh, fun t ht hT => by
              have := fst_none hd t (Nat.zero_le _) (by omega)
              unfold dirP at this
              rw [hT] at this
              simpa using this⟩
            obtain ⟨C, h1, e1, c1, q1, q2, q3, q4⟩ := leastCut_eq (tI := nI P) H (fun v hv => bt_nI (by omega)) gr
            have eh : hbX h1 = hbX h := by unfold hbX; rw [c1.C 8 (by decide), c1.C 9 (by decide), c1.C 10 (by decide)]
            have Y20 : bs (mayP (hbX h) i N P) N < 2 ^ 20 := Nat.lt_of_lt_of_le (bs_lt _ N) two20
            have C20 : bs C N < 2 ^ 20 := Nat.lt_of_lt_of_le (bs_lt _ N) two20
            have sub : sbs (bs C N) (bs (mayP (hbX h) i N P) N) = true := by
              rw [sbs_iff]
              intro k hk hb
              rw [bs_bit] at hb ⊢
              simp only [Bool.and_eq_true, decide_eq_true_eq] at hb
              obtain ⟨k1, k2⟩ := hb
              obtain ⟨f1, f2, f3⟩ := fre_iff.mp (q1 k k2)
              obtain ⟨t, t1, t2, t3⟩ := q4 k k2
              have nz : ¬ (stn (hbX h) k (fun _ => false) N &&& P = 0) := and_nz.mpr ⟨t, t3, t2⟩
              unfold mayP
              simp [k1, f2, f3, nz]
            have sepZ : ∀ X : Nat → Bool, (stn (hbX h) i X N &&& P = 0) ↔ Sep (hbX h) i N P.testBit X := fun X => by
              constructor
              · intro z t ht hT
                cases b : (stn (hbX h) i X N).testBit t with
                | false => rfl
                | true => exact absurd z (and_nz.mpr ⟨t, b, hT⟩)
              · intro sp
                apply Classical.byContradiction
                intro z
                obtain ⟨t, a, b⟩ := and_nz.mp z
                rw [sp t (stn_top a) b] at a
                cases a
            have best : rbest (bs (mayP (hbX h) i N P) N) (anT (hbX h) i N P) (bs (mayP (hbX h) i N P) N + 1) = some (bs C N) := by
              refine rbest_is (by have := sbs_le C20 sub; omega) sub ?_ (fun s hs hsub hT => ?_)
              · unfold anT
                have : stn (hbX h) i (bs C N).testBit N = stn (hbX h) i C N := stn_cong (fun j hj => ⟨fun _ => rfl, by rw [bs_bit]; simp [hj]⟩)
                rw [this]
                exact decide_eq_true ((sepZ C).mpr q2)
              · have s2 : s < 2 ^ N := by have := bs_lt (mayP (hbX h) i N P) N; omega
                unfold anT at hT
                rw [decide_eq_true_eq] at hT
                have := q3 s.testBit (fun v hv => by
                  have vN : v < N := by
                    by_cases a : v < N
                    · exact a
                    · rw [tb_big s2 (by omega)] at hv; cases hv
                  have m := sbs_iff.mp hsub v (by omega) hv
                  rw [bs_bit] at m
                  unfold mayP at m
                  simp only [Bool.and_eq_true, decide_eq_true_eq, Bool.not_eq_true'] at m
                  exact fre_iff.mpr ⟨vN, m.2.1.1, m.2.1.2⟩) ((sepZ _).mp hT)
                rw [bs_tb s2] at this
                rw [pop_bs hN, ← bs_tb s2, pop_bs hN, bs_tb s2]
                exact this
            refine St.ro (r := if r = 0 then nI (ct C N) else nI (bs C N)) I (sX ?_) c1 (sM c1 ?_) .rf
            · rw [anew53 H hi, hd]
              dsimp only
              rw [e1, ob]
              dsimp only
              rw [bitCount_bs hN]
              split <;> rfl
            · rw [anew107 (H.core c1), eh, hd]
              dsimp only
              rw [anew150 (H.core c1) hi Y20, eh, best]
              show (if nI (bs C N) = -1 then some (-2 : Int32) else if r = 0 then (fX12_bits (nI (bs C N)) h1).bind (fun b36 => some b36) else some (nI (bs C N))) = _
              rw [if_neg (show ¬ nI (bs C N) = -1 from fun z => nI_pos (n := bs C N) (by omega) (by rw [z]; decide)), bits_eq, ob, pop_bs hN]
              split <;> rfl
    · have bad : q < 0 ∨ nI (2 ^ N - 1) < q := by
        apply Classical.byContradiction
        intro z
        have z1 : ¬ q < 0 := fun a => z (Or.inl a)
        have z2 : ¬ nI (2 ^ N - 1) < q := fun a => z (Or.inr a)
        obtain ⟨P, hP, rfl⟩ := nI_of z1
        refine cP ((told_iff hN _).mpr ⟨P, ?_, rfl⟩)
        by_cases a : P < 2 ^ N
        · exact a
        · exact absurd (nI_lt (a := 2 ^ N - 1) (b := P) (by omega) hP) z2
      refine ref ?_ ?_
      · unfold xo_anew fX11_anew
        rw [holds_in H.sX hN hi, if_neg (by decide), eX, if_neg cP]
      · unfold fX12_anew
        rw [isLine_in H.sM hN hi, if_neg (by decide), eM]
        by_cases q0 : q < 0
        · rw [if_pos q0]
        · rw [if_neg q0, if_pos (bad.resolve_left q0)]
  · refine ref ?_ ?_
    · unfold xo_anew fX11_anew
      rw [holds_out H.sX hp, if_pos rfl]
    · unfold fX12_anew
      rw [isLine_out H.sM hp, if_pos rfl]
