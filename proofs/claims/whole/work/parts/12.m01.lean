noncomputable section
def fX12_in (p0 : Int32) (p1 : Int32) (p2 : Int32) (h : AH) : Int32 :=
  if p0 < p1 then
    (0 : Int32)
  else
    if p2 < p0 then
      (0 : Int32)
    else
      (1 : Int32)
theorem sX12_in (p0 : Int32) (p1 : Int32) (p2 : Int32) (h : AH) : Sim RX12 cX12_in 3 (some .boolean) 1 (tI h) (fX12_in p0 p1 p2 h) 0 [(0, .int p0), (1, .int p1), (2, .int p2)] [] h := by
  unfold fX12_in
  refine sim_iload_n 0 rfl dX12_in_0 ?_
  refine sim_iload_n 1 rfl dX12_in_1 ?_
  refine sim_icmp_lt (tgt := 14) dX12_in_2 (by decide) (fun c1 => ?_) (fun c1 => ?_)
  · refine sim_iconst (v := 0) (by decide) dX12_in_14 ?_
    exact sim_zret rfl rfl rfl dX12_in_15
  · refine sim_iload_n 0 rfl dX12_in_5 ?_
    refine sim_iload_n 2 rfl dX12_in_6 ?_
    refine sim_icmp_gt (tgt := 14) dX12_in_7 (by decide) (fun c2 => ?_) (fun c2 => ?_)
    · refine sim_iconst (v := 0) (by decide) dX12_in_14 ?_
      exact sim_zret rfl rfl rfl dX12_in_15
    · refine sim_iconst (v := 1) (by decide) dX12_in_10 ?_
      refine sim_goto (tgt := 15) dX12_in_11 (by decide) ?_
      exact sim_zret rfl rfl rfl dX12_in_15
theorem okX12_in (p0 : Int32) (p1 : Int32) (p2 : Int32) (h : AH) : Ok yX12_in cX12_in 3 (some .boolean) 1 [.int p0, .int p1, .int p2] h (some (.int (fX12_in p0 p1 p2 h)), h) := ok_of (sX12_in p0 p1 p2 h) rfl (by decide +kernel) (Nat.le_of_ble_eq_true rfl)
def fX12_modulus_l24b (rec : Int32 → AH → Option (Int32 × AH)) (x1 : Int32) (x2 : Int32) (h : AH) : Option (Int32 × AH) :=
  if x2 < (10 : Int32) then
    if x2 < 0 ∨ 10 ≤ x2.toNatClampNeg then none else
    if x1 = 0 then none else
    if x2 < 0 ∨ 10 ≤ x2.toNatClampNeg then none else
    letT (sI h 76 x2.toNatClampNeg (jrem (h.1 76 x2.toNatClampNeg) x1)) (fun g8 =>
    rec (x2 + 1) g8)
  else
    some ((1 : Int32), h)
def fX12_modulus_l24 (x1 : Int32) : Nat → Int32 → AH → Option (Int32 × AH)
  | 0, _, _ => none
  | n + 1, x2, h => fX12_modulus_l24b (fX12_modulus_l24 x1 n) x1 x2 h
theorem sX12_modulus_l24b {rec : Int32 → AH → Option (Int32 × AH)} {x1 : Int32} (hR : ∀ (x2 : Int32) (h : AH), Sim RX12 cX12_modulus 3 (some .boolean) 2 (Option.map oI) (rec x2 h) 24 [(0, .ref 75), (1, .int x1), (2, .int x2)] [] h) : ∀ (x2 : Int32) (h : AH), Sim RX12 cX12_modulus 3 (some .boolean) 2 (Option.map oI) (fX12_modulus_l24b rec x1 x2 h) 24 [(0, .ref 75), (1, .int x1), (2, .int x2)] [] h := by
  intro x2 h
  unfold fX12_modulus_l24b
  refine sim_iload_n 2 rfl dX12_modulus_24 ?_
  refine sim_bipush (v := 10) (by decide) dX12_modulus_25 ?_
  refine sim_icmp_ge (tgt := 50) dX12_modulus_27 (by decide) (fun c4 => ?_) (fun c4 => ?_)
  · refine sim_iconst (v := 1) (by decide) dX12_modulus_50 ?_
    exact sim_zret rfl rfl rfl dX12_modulus_51
  · refine sim_aload_n 0 rfl dX12_modulus_30 ?_
    refine sim_getR flX12_7 rfl rfl dX12_modulus_31 ?_
    refine sim_iload_n 2 rfl dX12_modulus_34 ?_
    refine sim_aload_n 0 rfl dX12_modulus_35 ?_
    refine sim_getR flX12_7 rfl rfl dX12_modulus_36 ?_
    refine sim_iload_n 2 rfl dX12_modulus_39 ?_
    refine sim_nguard (fun c5 => ?_)
    refine sim_iald rfl c5 dX12_modulus_40 ?_
    refine sim_iload_n 1 rfl dX12_modulus_41 ?_
    refine sim_nguard (fun c6 => ?_)
    refine sim_irem c6 dX12_modulus_42 ?_
    refine sim_nguard (fun c7 => ?_)
    refine sim_iast rfl c7 dX12_modulus_43 ?_
    refine sim_nmH (fun g8 => ?_)
    refine sim_iinc (v := x2 + 1) (L' := [(2, .int (x2 + 1)), (0, .ref 75), (1, .int x1)]) 2 rfl rfl rfl (by decide) dX12_modulus_44 ?_
    refine sim_goto (tgt := 24) dX12_modulus_47 (by decide) ?_
    refine sim_sub [1, 2, 0] rfl ?_
    exact hR (x2 + 1) g8
theorem sX12_modulus_l24 {x1 : Int32} : ∀ (n : Nat) (x2 : Int32) (h : AH), Sim RX12 cX12_modulus 3 (some .boolean) 2 (Option.map oI) (fX12_modulus_l24 x1 n x2 h) 24 [(0, .ref 75), (1, .int x1), (2, .int x2)] [] h := by
  intro n
  induction n with
  | zero => intro x2 h; exact sim_none
  | succ n ih => intro x2 h; exact sX12_modulus_l24b ih x2 h
def fX12_modulus (p1 : Int32) (h : AH) : Option (Int32 × AH) :=
  if (fX12_in p1 (2 : Int32) (97 : Int32) h) = 0 then
    some ((0 : Int32), h)
  else
    letT (sI h 75 0 p1) (fun g2 =>
    letT (sI g2 75 2 (0 : Int32)) (fun g3 =>
    fX12_modulus_l24 p1 fuel0 (0 : Int32) g3))
theorem sX12_modulus (p1 : Int32) (h : AH) : Sim RX12 cX12_modulus 3 (some .boolean) 2 (Option.map oI) (fX12_modulus p1 h) 0 [(0, .ref 75), (1, .int p1)] [] h := by
  unfold fX12_modulus
  refine sim_iload_n 1 rfl dX12_modulus_0 ?_
  refine sim_iconst (v := 2) (by decide) dX12_modulus_1 ?_
  refine sim_bipush (v := 97) (by decide) dX12_modulus_2 ?_
  refine sim_cS (As := [.int p1, .int (2 : Int32), .int (97 : Int32)]) (st := []) (r := (some (.int (fX12_in p1 (2 : Int32) (97 : Int32) h)))) (h1 := h) (okX12_in p1 (2 : Int32) (97 : Int32) h) (fun _ => rfl) mlX12_141 mtX12_in rfl (Nat.le_of_ble_eq_true rfl) rfl (Nat.le_of_ble_eq_true rfl) dX12_modulus_4 ?_
  refine sim_if_ne (tgt := 12) dX12_modulus_7 (by decide) (fun c1 => ?_) (fun c1 => ?_)
  · refine sim_aload_n 0 rfl dX12_modulus_12 ?_
    refine sim_iload_n 1 rfl dX12_modulus_13 ?_
    refine sim_putI fpX12_134 rfl rfl rfl rfl dX12_modulus_14 ?_
    refine sim_nmH (fun g2 => ?_)
    refine sim_aload_n 0 rfl dX12_modulus_17 ?_
    refine sim_iconst (v := 0) (by decide) dX12_modulus_18 ?_
    refine sim_putI fpX12_145 rfl rfl rfl rfl dX12_modulus_19 ?_
    refine sim_nmH (fun g3 => ?_)
    refine sim_iconst (v := 0) (by decide) dX12_modulus_22 ?_
    refine sim_istore_n (L' := [(2, .int (0 : Int32)), (0, .ref 75), (1, .int p1)]) rfl (by decide) dX12_modulus_23 ?_
    refine sim_sub [1, 2, 0] rfl ?_
    refine sX12_modulus_l24 _ (0 : Int32) g3
  · refine sim_iconst (v := 0) (by decide) dX12_modulus_10 ?_
    exact sim_zret rfl rfl rfl dX12_modulus_11
theorem okX12_modulus (p1 : Int32) (h : AH) (b : Int32 × AH) (e : fX12_modulus p1 h = some b) : Ok yX12_modulus cX12_modulus 3 (some .boolean) 2 [.ref 75, .int p1] h (some (.int b.1), b.2) := ok_of (sX12_modulus p1 h) (by rw [e]; rfl) (by decide +kernel) (Nat.le_of_ble_eq_true rfl)
def fX12_axiom (p1 : Int32) (p2 : Int32) (h : AH) : Option (Int32 × AH) :=
  if (fX12_in p1 (0 : Int32) (9 : Int32) h) = 0 then
    some ((0 : Int32), h)
  else
    if (fX12_in p2 (0 : Int32) ((h.1 75 0) - (1 : Int32)) h) = 0 then
      some ((0 : Int32), h)
    else
      if p1 < 0 ∨ 10 ≤ p1.toNatClampNeg then none else
      letT (sI h 76 p1.toNatClampNeg p2) (fun g4 =>
      some ((1 : Int32), g4))
theorem sX12_axiom (p1 : Int32) (p2 : Int32) (h : AH) : Sim RX12 cX12_axiom 3 (some .boolean) 2 (Option.map oI) (fX12_axiom p1 p2 h) 0 [(0, .ref 75), (1, .int p1), (2, .int p2)] [] h := by
  unfold fX12_axiom
  refine sim_iload_n 1 rfl dX12_axiom_0 ?_
  refine sim_iconst (v := 0) (by decide) dX12_axiom_1 ?_
  refine sim_bipush (v := 9) (by decide) dX12_axiom_2 ?_
  refine sim_cS (As := [.int p1, .int (0 : Int32), .int (9 : Int32)]) (st := []) (r := (some (.int (fX12_in p1 (0 : Int32) (9 : Int32) h)))) (h1 := h) (okX12_in p1 (0 : Int32) (9 : Int32) h) (fun _ => rfl) mlX12_141 mtX12_in rfl (Nat.le_of_ble_eq_true rfl) rfl (Nat.le_of_ble_eq_true rfl) dX12_axiom_4 ?_
  refine sim_if_eq (tgt := 24) dX12_axiom_7 (by decide) (fun c1 => ?_) (fun c1 => ?_)
  · refine sim_iconst (v := 0) (by decide) dX12_axiom_24 ?_
    exact sim_zret rfl rfl rfl dX12_axiom_25
  · refine sim_iload_n 2 rfl dX12_axiom_10 ?_
    refine sim_iconst (v := 0) (by decide) dX12_axiom_11 ?_
    refine sim_aload_n 0 rfl dX12_axiom_12 ?_
    refine sim_getI flX12_134 rfl rfl dX12_axiom_13 ?_
    refine sim_iconst (v := 1) (by decide) dX12_axiom_16 ?_
    refine sim_isub dX12_axiom_17 ?_
    refine sim_cS (As := [.int p2, .int (0 : Int32), .int ((h.1 75 0) - (1 : Int32))]) (st := []) (r := (some (.int (fX12_in p2 (0 : Int32) ((h.1 75 0) - (1 : Int32)) h)))) (h1 := h) (okX12_in p2 (0 : Int32) ((h.1 75 0) - (1 : Int32)) h) (fun _ => rfl) mlX12_141 mtX12_in rfl (Nat.le_of_ble_eq_true rfl) rfl (Nat.le_of_ble_eq_true rfl) dX12_axiom_18 ?_
    refine sim_if_ne (tgt := 26) dX12_axiom_21 (by decide) (fun c2 => ?_) (fun c2 => ?_)
    · refine sim_aload_n 0 rfl dX12_axiom_26 ?_
      refine sim_getR flX12_7 rfl rfl dX12_axiom_27 ?_
      refine sim_iload_n 1 rfl dX12_axiom_30 ?_
      refine sim_iload_n 2 rfl dX12_axiom_31 ?_
      refine sim_nguard (fun c3 => ?_)
      refine sim_iast rfl c3 dX12_axiom_32 ?_
      refine sim_nmH (fun g4 => ?_)
      refine sim_iconst (v := 1) (by decide) dX12_axiom_33 ?_
      exact sim_zret rfl rfl rfl dX12_axiom_34
    · refine sim_iconst (v := 0) (by decide) dX12_axiom_24 ?_
      exact sim_zret rfl rfl rfl dX12_axiom_25
theorem okX12_axiom (p1 : Int32) (p2 : Int32) (h : AH) (b : Int32 × AH) (e : fX12_axiom p1 p2 h = some b) : Ok yX12_axiom cX12_axiom 3 (some .boolean) 2 [.ref 75, .int p1, .int p2] h (some (.int b.1), b.2) := ok_of (sX12_axiom p1 p2 h) (by rw [e]; rfl) (by decide +kernel) (Nat.le_of_ble_eq_true rfl)
def fX12_types_l2b (rec : Int32 → AH → Option AH) (x1 : Int32) (x2 : Int32) (h : AH) : Option AH :=
  if x2 < 0 then
    some h
  else
    if (h.1 75 10) < 0 ∨ 220 ≤ (h.1 75 10).toNatClampNeg then none else
    letT (sI h 82 (h.1 75 10).toNatClampNeg (vp_nar .byte (ji2b (jshr x1 ((8 : Int32) * x2))))) (fun g3 =>
    letT (sI g3 75 10 ((g3.1 75 10) + (1 : Int32))) (fun g4 =>
    rec (x2 + (-1 : Int32)) g4))
def fX12_types_l2 (x1 : Int32) : Nat → Int32 → AH → Option AH
  | 0, _, _ => none
  | n + 1, x2, h => fX12_types_l2b (fX12_types_l2 x1 n) x1 x2 h
theorem sX12_types_l2b {rec : Int32 → AH → Option AH} {x1 : Int32} (hR : ∀ (x2 : Int32) (h : AH), Sim RX12 cX12_types 3 none 1 (Option.map oV) (rec x2 h) 2 [(0, .ref 75), (1, .int x1), (2, .int x2)] [] h) : ∀ (x2 : Int32) (h : AH), Sim RX12 cX12_types 3 none 1 (Option.map oV) (fX12_types_l2b rec x1 x2 h) 2 [(0, .ref 75), (1, .int x1), (2, .int x2)] [] h := by
  intro x2 h
  unfold fX12_types_l2b
  refine sim_iload_n 2 rfl dX12_types_2 ?_
  refine sim_if_lt (tgt := 38) dX12_types_3 (by decide) (fun c1 => ?_) (fun c1 => ?_)
  · exact sim_vret rfl rfl dX12_types_38
  · refine sim_aload_n 0 rfl dX12_types_6 ?_
    refine sim_getR flX12_28 rfl rfl dX12_types_7 ?_
    refine sim_aload_n 0 rfl dX12_types_10 ?_
    refine sim_getI flX12_148 rfl rfl dX12_types_11 ?_
    refine sim_iload_n 1 rfl dX12_types_14 ?_
    refine sim_bipush (v := 8) (by decide) dX12_types_15 ?_
    refine sim_iload_n 2 rfl dX12_types_17 ?_
    refine sim_imul dX12_types_18 ?_
    refine sim_ishr dX12_types_19 ?_
    refine sim_i2b dX12_types_20 ?_
    refine sim_nguard (fun c2 => ?_)
    refine sim_bast rfl c2 dX12_types_21 ?_
    refine sim_nmH (fun g3 => ?_)
    refine sim_aload_n 0 rfl dX12_types_22 ?_
    refine sim_aload_n 0 rfl dX12_types_23 ?_
    refine sim_getI flX12_148 rfl rfl dX12_types_24 ?_
    refine sim_iconst (v := 1) (by decide) dX12_types_27 ?_
    refine sim_iadd dX12_types_28 ?_
    refine sim_putI fpX12_148 rfl rfl rfl rfl dX12_types_29 ?_
    refine sim_nmH (fun g4 => ?_)
    refine sim_iinc (v := x2 + (-1 : Int32)) (L' := [(2, .int (x2 + (-1 : Int32))), (0, .ref 75), (1, .int x1)]) 2 rfl (congrArg (fun q => x2 + q) (by decide)) rfl (by decide) dX12_types_32 ?_
    refine sim_goto (tgt := 2) dX12_types_35 (by decide) ?_
    refine sim_sub [1, 2, 0] rfl ?_
    exact hR (x2 + (-1 : Int32)) g4
theorem sX12_types_l2 {x1 : Int32} : ∀ (n : Nat) (x2 : Int32) (h : AH), Sim RX12 cX12_types 3 none 1 (Option.map oV) (fX12_types_l2 x1 n x2 h) 2 [(0, .ref 75), (1, .int x1), (2, .int x2)] [] h := by
  intro n
  induction n with
  | zero => intro x2 h; exact sim_none
  | succ n ih => intro x2 h; exact sX12_types_l2b ih x2 h
def fX12_types (p1 : Int32) (h : AH) : Option AH :=
  fX12_types_l2 p1 fuel0 (3 : Int32) h
theorem sX12_types (p1 : Int32) (h : AH) : Sim RX12 cX12_types 3 none 1 (Option.map oV) (fX12_types p1 h) 0 [(0, .ref 75), (1, .int p1)] [] h := by
  unfold fX12_types
  refine sim_iconst (v := 3) (by decide) dX12_types_0 ?_
  refine sim_istore_n (L' := [(2, .int (3 : Int32)), (0, .ref 75), (1, .int p1)]) rfl (by decide) dX12_types_1 ?_
  refine sim_sub [1, 2, 0] rfl ?_
  refine sX12_types_l2 _ (3 : Int32) h
theorem okX12_types (p1 : Int32) (h : AH) (b : AH) (e : fX12_types p1 h = some b) : Ok yX12_types cX12_types 3 none 1 [.ref 75, .int p1] h (none, b) := ok_of (sX12_types p1 h) (by rw [e]; rfl) (by decide +kernel) (Nat.le_of_ble_eq_true rfl)
def fX12_feed (p1 : Int32) (p2 : Int32) (p3 : Int32) (p4 : Int32) (p5 : Int32) (h : AH) : Option (Int32 × AH) :=
  if (220 : Int32) < ((h.1 75 10) + (20 : Int32)) then
    some ((-1 : Int32), h)
  else
    (fX12_types p1 h).bind (fun b2 =>
    (fX12_types p2 b2).bind (fun b4 =>
    (fX12_types p3 b4).bind (fun b6 =>
    (fX12_types p4 b6).bind (fun b8 =>
    (fX12_types p5 b8).bind (fun b10 =>
    some (b10.1 75 10, b10))))))
theorem sX12_feed (p1 : Int32) (p2 : Int32) (p3 : Int32) (p4 : Int32) (p5 : Int32) (h : AH) : Sim RX12 cX12_feed 6 (some .int) 2 (Option.map oI) (fX12_feed p1 p2 p3 p4 p5 h) 0 [(0, .ref 75), (1, .int p1), (2, .int p2), (3, .int p3), (4, .int p4), (5, .int p5)] [] h := by
  unfold fX12_feed
  refine sim_aload_n 0 rfl dX12_feed_0 ?_
  refine sim_getI flX12_148 rfl rfl dX12_feed_1 ?_
  refine sim_bipush (v := 20) (by decide) dX12_feed_4 ?_
  refine sim_iadd dX12_feed_6 ?_
  refine sim_sipush (v := 220) (by decide) dX12_feed_7 ?_
  refine sim_icmp_le (tgt := 15) dX12_feed_10 (by decide) (fun c1 => ?_) (fun c1 => ?_)
  · refine sim_aload_n 0 rfl dX12_feed_15 ?_
    refine sim_iload_n 1 rfl dX12_feed_16 ?_
    refine sim_bind (fun b2 e3 => ?_)
    refine sim_cV (As := [.int p1]) (st := []) (r := none) (h1 := b2) (okX12_types p1 h b2 e3) (fun _ => rfl) mlX12_151 mtX12_types rfl rfl rfl rfl (Nat.le_of_ble_eq_true rfl) rfl (Nat.le_of_ble_eq_true rfl) dX12_feed_17 ?_
    refine sim_aload_n 0 rfl dX12_feed_20 ?_
    refine sim_iload_n 2 rfl dX12_feed_21 ?_
    refine sim_bind (fun b4 e5 => ?_)
    refine sim_cV (As := [.int p2]) (st := []) (r := none) (h1 := b4) (okX12_types p2 b2 b4 e5) (fun _ => rfl) mlX12_151 mtX12_types rfl rfl rfl rfl (Nat.le_of_ble_eq_true rfl) rfl (Nat.le_of_ble_eq_true rfl) dX12_feed_22 ?_
    refine sim_aload_n 0 rfl dX12_feed_25 ?_
    refine sim_iload_n 3 rfl dX12_feed_26 ?_
    refine sim_bind (fun b6 e7 => ?_)
    refine sim_cV (As := [.int p3]) (st := []) (r := none) (h1 := b6) (okX12_types p3 b4 b6 e7) (fun _ => rfl) mlX12_151 mtX12_types rfl rfl rfl rfl (Nat.le_of_ble_eq_true rfl) rfl (Nat.le_of_ble_eq_true rfl) dX12_feed_27 ?_
    refine sim_aload_n 0 rfl dX12_feed_30 ?_
    refine sim_iload 4 rfl dX12_feed_31 ?_
    refine sim_bind (fun b8 e9 => ?_)
    refine sim_cV (As := [.int p4]) (st := []) (r := none) (h1 := b8) (okX12_types p4 b6 b8 e9) (fun _ => rfl) mlX12_151 mtX12_types rfl rfl rfl rfl (Nat.le_of_ble_eq_true rfl) rfl (Nat.le_of_ble_eq_true rfl) dX12_feed_33 ?_
    refine sim_aload_n 0 rfl dX12_feed_36 ?_
    refine sim_iload 5 rfl dX12_feed_37 ?_
    refine sim_bind (fun b10 e11 => ?_)
    refine sim_cV (As := [.int p5]) (st := []) (r := none) (h1 := b10) (okX12_types p5 b8 b10 e11) (fun _ => rfl) mlX12_151 mtX12_types rfl rfl rfl rfl (Nat.le_of_ble_eq_true rfl) rfl (Nat.le_of_ble_eq_true rfl) dX12_feed_39 ?_
    refine sim_aload_n 0 rfl dX12_feed_42 ?_
    refine sim_getI flX12_148 rfl rfl dX12_feed_43 ?_
    exact sim_iret rfl rfl dX12_feed_46
  · refine sim_iconst (v := -1) (by decide) dX12_feed_13 ?_
    exact sim_iret rfl rfl dX12_feed_14
theorem okX12_feed (p1 : Int32) (p2 : Int32) (p3 : Int32) (p4 : Int32) (p5 : Int32) (h : AH) (b : Int32 × AH) (e : fX12_feed p1 p2 p3 p4 p5 h = some b) : Ok yX12_feed cX12_feed 6 (some .int) 2 [.ref 75, .int p1, .int p2, .int p3, .int p4, .int p5] h (some (.int b.1), b.2) := ok_of (sX12_feed p1 p2 p3 p4 p5 h) (by rw [e]; rfl) (by decide +kernel) (Nat.le_of_ble_eq_true rfl)
def fX12_here (h : AH) : Option Int32 :=
  if (h.1 75 11) < (h.1 75 12) then
    if (h.1 75 11) < 0 ∨ 220 ≤ (h.1 75 11).toNatClampNeg then none else
    some ((h.1 82 (h.1 75 11).toNatClampNeg) &&& (255 : Int32))
  else
    some (-1 : Int32)
theorem sX12_here (h : AH) : Sim RX12 cX12_here 1 (some .int) 1 (Option.map (pI h)) (fX12_here h) 0 [(0, .ref 75)] [] h := by
  unfold fX12_here
  refine sim_aload_n 0 rfl dX12_here_0 ?_
  refine sim_getI flX12_155 rfl rfl dX12_here_1 ?_
  refine sim_aload_n 0 rfl dX12_here_4 ?_
  refine sim_getI flX12_189 rfl rfl dX12_here_5 ?_
  refine sim_icmp_ge (tgt := 27) dX12_here_8 (by decide) (fun c1 => ?_) (fun c1 => ?_)
  · refine sim_iconst (v := -1) (by decide) dX12_here_27 ?_
    exact sim_iret rfl rfl dX12_here_28
  · refine sim_aload_n 0 rfl dX12_here_11 ?_
    refine sim_getR flX12_28 rfl rfl dX12_here_12 ?_
    refine sim_aload_n 0 rfl dX12_here_15 ?_
    refine sim_getI flX12_155 rfl rfl dX12_here_16 ?_
    refine sim_nguard (fun c2 => ?_)
    refine sim_bald rfl c2 dX12_here_19 ?_
    refine sim_sipush (v := 255) (by decide) dX12_here_20 ?_
    refine sim_iand dX12_here_23 ?_
    refine sim_goto (tgt := 28) dX12_here_24 (by decide) ?_
    exact sim_iret rfl rfl dX12_here_28
theorem okX12_here (h : AH) (b : Int32) (e : fX12_here h = some b) : Ok yX12_here cX12_here 1 (some .int) 1 [.ref 75] h (some (.int b), h) := ok_of (sX12_here h) (by rw [e]; rfl) (by decide +kernel) (Nat.le_of_ble_eq_true rfl)
def fX12_isDigit (h : AH) : Option Int32 :=
  (fX12_here h).bind (fun b1 =>
  if b1 < (48 : Int32) then
    some (0 : Int32)
  else
    (fX12_here h).bind (fun b4 =>
    if (57 : Int32) < b4 then
      some (0 : Int32)
    else
      some (1 : Int32)))
theorem sX12_isDigit (h : AH) : Sim RX12 cX12_isDigit 1 (some .boolean) 2 (Option.map (pI h)) (fX12_isDigit h) 0 [(0, .ref 75)] [] h := by
  unfold fX12_isDigit
  refine sim_aload_n 0 rfl dX12_isDigit_0 ?_
  refine sim_bind (fun b1 e2 => ?_)
  refine sim_cV (As := []) (st := []) (r := (some (.int b1))) (h1 := h) (okX12_here h b1 e2) (fun _ => rfl) mlX12_165 mtX12_here rfl rfl rfl rfl (Nat.le_of_ble_eq_true rfl) rfl (Nat.le_of_ble_eq_true rfl) dX12_isDigit_1 ?_
  refine sim_bipush (v := 48) (by decide) dX12_isDigit_4 ?_
  refine sim_icmp_lt (tgt := 22) dX12_isDigit_6 (by decide) (fun c3 => ?_) (fun c3 => ?_)
  · refine sim_iconst (v := 0) (by decide) dX12_isDigit_22 ?_
    exact sim_zret rfl rfl rfl dX12_isDigit_23
  · refine sim_aload_n 0 rfl dX12_isDigit_9 ?_
    refine sim_bind (fun b4 e5 => ?_)
    refine sim_cV (As := []) (st := []) (r := (some (.int b4))) (h1 := h) (okX12_here h b4 e5) (fun _ => rfl) mlX12_165 mtX12_here rfl rfl rfl rfl (Nat.le_of_ble_eq_true rfl) rfl (Nat.le_of_ble_eq_true rfl) dX12_isDigit_10 ?_
    refine sim_bipush (v := 57) (by decide) dX12_isDigit_13 ?_
    refine sim_icmp_gt (tgt := 22) dX12_isDigit_15 (by decide) (fun c6 => ?_) (fun c6 => ?_)
    · refine sim_iconst (v := 0) (by decide) dX12_isDigit_22 ?_
      exact sim_zret rfl rfl rfl dX12_isDigit_23
    · refine sim_iconst (v := 1) (by decide) dX12_isDigit_18 ?_
      refine sim_goto (tgt := 23) dX12_isDigit_19 (by decide) ?_
      exact sim_zret rfl rfl rfl dX12_isDigit_23
theorem okX12_isDigit (h : AH) (b : Int32) (e : fX12_isDigit h = some b) : Ok yX12_isDigit cX12_isDigit 1 (some .boolean) 2 [.ref 75] h (some (.int b), h) := ok_of (sX12_isDigit h) (by rw [e]; rfl) (by decide +kernel) (Nat.le_of_ble_eq_true rfl)
def fX12_wrongAt (p1 : Int32) (p2 : Int32) (h : AH) : Int32 × AH :=
  letT (sI h 75 13 (((-1000 : Int32) * p1) - p2)) (fun g1 =>
  ((0 : Int32), g1))
theorem sX12_wrongAt (p1 : Int32) (p2 : Int32) (h : AH) : Sim RX12 cX12_wrongAt 3 (some .boolean) 1 (tP) (fX12_wrongAt p1 p2 h) 0 [(0, .ref 75), (1, .int p1), (2, .int p2)] [] h := by
  unfold fX12_wrongAt
  refine sim_aload_n 0 rfl dX12_wrongAt_0 ?_
  refine sim_sipush (v := -1000) (by decide) dX12_wrongAt_1 ?_
  refine sim_iload_n 1 rfl dX12_wrongAt_4 ?_
  refine sim_imul dX12_wrongAt_5 ?_
  refine sim_iload_n 2 rfl dX12_wrongAt_6 ?_
  refine sim_isub dX12_wrongAt_7 ?_
  refine sim_putI fpX12_195 rfl rfl rfl rfl dX12_wrongAt_8 ?_
  refine sim_nmH (fun g1 => ?_)
  refine sim_iconst (v := 0) (by decide) dX12_wrongAt_11 ?_
  exact sim_zret rfl rfl rfl dX12_wrongAt_12
theorem okX12_wrongAt (p1 : Int32) (p2 : Int32) (h : AH) : Ok yX12_wrongAt cX12_wrongAt 3 (some .boolean) 1 [.ref 75, .int p1, .int p2] h (some (.int (fX12_wrongAt p1 p2 h).1), (fX12_wrongAt p1 p2 h).2) := ok_of (sX12_wrongAt p1 p2 h) rfl (by decide +kernel) (Nat.le_of_ble_eq_true rfl)
def fX12_readsBelow_l10b (rec : AH → Option (Int32 × AH)) (K59 : AH → Option (Int32 × AH)) (x1 : Int32) (x2 : Int32) (x3 : Int32) (h : AH) : Option (Int32 × AH) :=
  (fX12_isDigit h).bind (fun b2 =>
  if b2 = 0 then
    K59 h
  else
    if (h.1 75 11) < (x3 + (2 : Int32)) then
      (fX12_here h).bind (fun b6 =>
      letT (sI h 75 14 ((((10 : Int32) * (h.1 75 14)) + b6) - (48 : Int32))) (fun g8 =>
      letT (sI g8 75 11 ((g8.1 75 11) + (1 : Int32))) (fun g9 =>
      rec g9)))
    else
      K59 h)
def fX12_readsBelow_l10 (K59 : AH → Option (Int32 × AH)) (x1 : Int32) (x2 : Int32) (x3 : Int32) : Nat → AH → Option (Int32 × AH)
  | 0, _ => none
  | n + 1, h => fX12_readsBelow_l10b (fX12_readsBelow_l10 K59 x1 x2 x3 n) K59 x1 x2 x3 h
theorem sX12_readsBelow_l10b {rec : AH → Option (Int32 × AH)} {K59 : AH → Option (Int32 × AH)} {x1 : Int32} {x2 : Int32} {x3 : Int32} (hR : ∀ (h : AH), Sim RX12 cX12_readsBelow 4 (some .boolean) 3 (Option.map oI) (rec h) 10 [(0, .ref 75), (1, .int x1), (2, .int x2), (3, .int x3)] [] h) (hK59 : ∀ (g : AH), Sim RX12 cX12_readsBelow 4 (some .boolean) 3 (Option.map oI) (K59 g) 59 [(0, .ref 75), (1, .int x1), (2, .int x2), (3, .int x3)] [] g) : ∀ (h : AH), Sim RX12 cX12_readsBelow 4 (some .boolean) 3 (Option.map oI) (fX12_readsBelow_l10b rec K59 x1 x2 x3 h) 10 [(0, .ref 75), (1, .int x1), (2, .int x2), (3, .int x3)] [] h := by
  intro h
  unfold fX12_readsBelow_l10b
  refine sim_aload_n 0 rfl dX12_readsBelow_10 ?_
  refine sim_bind (fun b2 e3 => ?_)
  refine sim_cV (As := []) (st := []) (r := (some (.int b2))) (h1 := h) (okX12_isDigit h b2 e3) (fun _ => rfl) mlX12_161 mtX12_isDigit rfl rfl rfl rfl (Nat.le_of_ble_eq_true rfl) rfl (Nat.le_of_ble_eq_true rfl) dX12_readsBelow_11 ?_
  refine sim_if_eq (tgt := 59) dX12_readsBelow_14 (by decide) (fun c4 => ?_) (fun c4 => ?_)
  · exact hK59 h
  · refine sim_aload_n 0 rfl dX12_readsBelow_17 ?_
    refine sim_getI flX12_155 rfl rfl dX12_readsBelow_18 ?_
    refine sim_iload_n 3 rfl dX12_readsBelow_21 ?_
    refine sim_iconst (v := 2) (by decide) dX12_readsBelow_22 ?_
    refine sim_iadd dX12_readsBelow_23 ?_
    refine sim_icmp_ge (tgt := 59) dX12_readsBelow_24 (by decide) (fun c5 => ?_) (fun c5 => ?_)
    · exact hK59 h
    · refine sim_aload_n 0 rfl dX12_readsBelow_27 ?_
      refine sim_bipush (v := 10) (by decide) dX12_readsBelow_28 ?_
      refine sim_aload_n 0 rfl dX12_readsBelow_30 ?_
      refine sim_getI flX12_158 rfl rfl dX12_readsBelow_31 ?_
      refine sim_imul dX12_readsBelow_34 ?_
      refine sim_aload_n 0 rfl dX12_readsBelow_35 ?_
      refine sim_bind (fun b6 e7 => ?_)
      refine sim_cV (As := []) (st := [.int ((10 : Int32) * (h.1 75 14)), .ref 75]) (r := (some (.int b6))) (h1 := h) (okX12_here h b6 e7) (fun _ => rfl) mlX12_165 mtX12_here rfl rfl rfl rfl (Nat.le_of_ble_eq_true rfl) rfl (Nat.le_of_ble_eq_true rfl) dX12_readsBelow_36 ?_
      refine sim_iadd dX12_readsBelow_39 ?_
      refine sim_bipush (v := 48) (by decide) dX12_readsBelow_40 ?_
      refine sim_isub dX12_readsBelow_42 ?_
      refine sim_putI fpX12_158 rfl rfl rfl rfl dX12_readsBelow_43 ?_
      refine sim_nmH (fun g8 => ?_)
      refine sim_aload_n 0 rfl dX12_readsBelow_46 ?_
      refine sim_aload_n 0 rfl dX12_readsBelow_47 ?_
      refine sim_getI flX12_155 rfl rfl dX12_readsBelow_48 ?_
      refine sim_iconst (v := 1) (by decide) dX12_readsBelow_51 ?_
      refine sim_iadd dX12_readsBelow_52 ?_
      refine sim_putI fpX12_155 rfl rfl rfl rfl dX12_readsBelow_53 ?_
      refine sim_nmH (fun g9 => ?_)
      refine sim_goto (tgt := 10) dX12_readsBelow_56 (by decide) ?_
      exact hR g9
theorem sX12_readsBelow_l10 {K59 : AH → Option (Int32 × AH)} {x1 : Int32} {x2 : Int32} {x3 : Int32} (hK59 : ∀ (g : AH), Sim RX12 cX12_readsBelow 4 (some .boolean) 3 (Option.map oI) (K59 g) 59 [(0, .ref 75), (1, .int x1), (2, .int x2), (3, .int x3)] [] g) : ∀ (n : Nat) (h : AH), Sim RX12 cX12_readsBelow 4 (some .boolean) 3 (Option.map oI) (fX12_readsBelow_l10 K59 x1 x2 x3 n h) 10 [(0, .ref 75), (1, .int x1), (2, .int x2), (3, .int x3)] [] h := by
  intro n
  induction n with
  | zero => intro h; exact sim_none
  | succ n ih => intro h; exact sX12_readsBelow_l10b ih hK59 h
def fX12_readsBelow (p1 : Int32) (p2 : Int32) (h : AH) : Option (Int32 × AH) :=
  letT (sI h 75 14 (0 : Int32)) (fun g1 =>
  fX12_readsBelow_l10 (fun (g10 : AH) =>
    if (g10.1 75 11) = (h.1 75 11) then
      letT (fX12_wrongAt (1 : Int32) (g10.1 75 11) g10) (fun b15 =>
      if b15.1 = 0 ∨ b15.1 = 1 then some (b15.1, b15.2) else none)
    else
      if (g10.1 75 14) < p1 then
        some ((1 : Int32), g10)
      else
        letT (fX12_wrongAt p2 (h.1 75 11) g10) (fun b13 =>
        if b13.1 = 0 then
          some ((0 : Int32), b13.2)
        else
          some ((1 : Int32), b13.2))) p1 p2 (h.1 75 11) fuel0 g1)
theorem sX12_readsBelow (p1 : Int32) (p2 : Int32) (h : AH) : Sim RX12 cX12_readsBelow 4 (some .boolean) 3 (Option.map oI) (fX12_readsBelow p1 p2 h) 0 [(0, .ref 75), (1, .int p1), (2, .int p2)] [] h := by
  unfold fX12_readsBelow
  refine sim_aload_n 0 rfl dX12_readsBelow_0 ?_
  refine sim_getI flX12_155 rfl rfl dX12_readsBelow_1 ?_
  refine sim_istore_n (L' := [(3, .int (h.1 75 11)), (0, .ref 75), (1, .int p1), (2, .int p2)]) rfl (by decide) dX12_readsBelow_4 ?_
  refine sim_aload_n 1 rfl dX12_readsBelow_5 ?_
  refine sim_iconst (v := 0) (by decide) dX12_readsBelow_6 ?_
  refine sim_putI fpX12_158 rfl rfl rfl rfl dX12_readsBelow_7 ?_
  refine sim_nmH (fun g1 => ?_)
  refine sim_sub [1, 2, 3, 0] rfl ?_
  refine sX12_readsBelow_l10 (fun g10 => ?_) _ g1
  · refine sim_aload_n 0 rfl dX12_readsBelow_59 ?_
    refine sim_getI flX12_155 rfl rfl dX12_readsBelow_60 ?_
    refine sim_iload_n 3 rfl dX12_readsBelow_63 ?_
    refine sim_icmp_ne (tgt := 77) dX12_readsBelow_64 (by decide) (fun c11 => ?_) (fun c11 => ?_)
    · refine sim_aload_n 0 rfl dX12_readsBelow_77 ?_
      refine sim_getI flX12_158 rfl rfl dX12_readsBelow_78 ?_
      refine sim_iload_n 1 rfl dX12_readsBelow_81 ?_
      refine sim_icmp_lt (tgt := 94) dX12_readsBelow_82 (by decide) (fun c12 => ?_) (fun c12 => ?_)
      · refine sim_iconst (v := 1) (by decide) dX12_readsBelow_94 ?_
        refine sim_goto (tgt := 99) dX12_readsBelow_95 (by decide) ?_
        exact sim_zret rfl rfl rfl dX12_readsBelow_99
      · refine sim_aload_n 0 rfl dX12_readsBelow_85 ?_
        refine sim_iload_n 2 rfl dX12_readsBelow_86 ?_
        refine sim_iload_n 3 rfl dX12_readsBelow_87 ?_
        refine sim_cV (As := [.int p2, .int (h.1 75 11)]) (st := []) (r := (some (.int ((fX12_wrongAt p2 (h.1 75 11) g10).1)))) (h1 := (fX12_wrongAt p2 (h.1 75 11) g10).2) (okX12_wrongAt p2 (h.1 75 11) g10) (fun _ => rfl) mlX12_169 mtX12_wrongAt rfl rfl rfl rfl (Nat.le_of_ble_eq_true rfl) rfl (Nat.le_of_ble_eq_true rfl) dX12_readsBelow_88 ?_
        refine sim_nmP (fun b13 => ?_)
        refine sim_if_eq (tgt := 98) dX12_readsBelow_91 (by decide) (fun c14 => ?_) (fun c14 => ?_)
        · refine sim_iconst (v := 0) (by decide) dX12_readsBelow_98 ?_
          exact sim_zret rfl rfl rfl dX12_readsBelow_99
        · refine sim_iconst (v := 1) (by decide) dX12_readsBelow_94 ?_
          refine sim_goto (tgt := 99) dX12_readsBelow_95 (by decide) ?_
          exact sim_zret rfl rfl rfl dX12_readsBelow_99
    · refine sim_aload_n 0 rfl dX12_readsBelow_67 ?_
      refine sim_iconst (v := 1) (by decide) dX12_readsBelow_68 ?_
      refine sim_aload_n 0 rfl dX12_readsBelow_69 ?_
      refine sim_getI flX12_155 rfl rfl dX12_readsBelow_70 ?_
      refine sim_cV (As := [.int (1 : Int32), .int (g10.1 75 11)]) (st := []) (r := (some (.int ((fX12_wrongAt (1 : Int32) (g10.1 75 11) g10).1)))) (h1 := (fX12_wrongAt (1 : Int32) (g10.1 75 11) g10).2) (okX12_wrongAt (1 : Int32) (g10.1 75 11) g10) (fun _ => rfl) mlX12_169 mtX12_wrongAt rfl rfl rfl rfl (Nat.le_of_ble_eq_true rfl) rfl (Nat.le_of_ble_eq_true rfl) dX12_readsBelow_73 ?_
      refine sim_nmP (fun b15 => ?_)
      refine sim_guard (fun c16 => ?_)
      exact sim_zret rfl (nar_b c16) rfl dX12_readsBelow_76
theorem okX12_readsBelow (p1 : Int32) (p2 : Int32) (h : AH) (b : Int32 × AH) (e : fX12_readsBelow p1 p2 h = some b) : Ok yX12_readsBelow cX12_readsBelow 4 (some .boolean) 3 [.ref 75, .int p1, .int p2] h (some (.int b.1), b.2) := ok_of (sX12_readsBelow p1 p2 h) (by rw [e]; rfl) (by decide +kernel) (Nat.le_of_ble_eq_true rfl)
def fX12_takes (p1 : Int32) (h : AH) : Option (Int32 × AH) :=
  (fX12_here h).bind (fun b1 =>
  if b1 = p1 then
    letT (sI h 75 11 ((h.1 75 11) + (1 : Int32))) (fun g4 =>
    some ((1 : Int32), g4))
  else
    letT (fX12_wrongAt (1 : Int32) (h.1 75 11) h) (fun b5 =>
    if b5.1 = 0 ∨ b5.1 = 1 then some (b5.1, b5.2) else none))
theorem sX12_takes (p1 : Int32) (h : AH) : Sim RX12 cX12_takes 2 (some .boolean) 2 (Option.map oI) (fX12_takes p1 h) 0 [(0, .ref 75), (1, .int p1)] [] h := by
  unfold fX12_takes
  refine sim_aload_n 0 rfl dX12_takes_0 ?_
  refine sim_bind (fun b1 e2 => ?_)
  refine sim_cV (As := []) (st := []) (r := (some (.int b1))) (h1 := h) (okX12_here h b1 e2) (fun _ => rfl) mlX12_165 mtX12_here rfl rfl rfl rfl (Nat.le_of_ble_eq_true rfl) rfl (Nat.le_of_ble_eq_true rfl) dX12_takes_1 ?_
  refine sim_iload_n 1 rfl dX12_takes_4 ?_
  refine sim_icmp_eq (tgt := 18) dX12_takes_5 (by decide) (fun c3 => ?_) (fun c3 => ?_)
  · refine sim_aload_n 0 rfl dX12_takes_18 ?_
    refine sim_aload_n 0 rfl dX12_takes_19 ?_
    refine sim_getI flX12_155 rfl rfl dX12_takes_20 ?_
    refine sim_iconst (v := 1) (by decide) dX12_takes_23 ?_
    refine sim_iadd dX12_takes_24 ?_
    refine sim_putI fpX12_155 rfl rfl rfl rfl dX12_takes_25 ?_
    refine sim_nmH (fun g4 => ?_)
    refine sim_iconst (v := 1) (by decide) dX12_takes_28 ?_
    exact sim_zret rfl rfl rfl dX12_takes_29
  · refine sim_aload_n 0 rfl dX12_takes_8 ?_
    refine sim_iconst (v := 1) (by decide) dX12_takes_9 ?_
    refine sim_aload_n 0 rfl dX12_takes_10 ?_
    refine sim_getI flX12_155 rfl rfl dX12_takes_11 ?_
    refine sim_cV (As := [.int (1 : Int32), .int (h.1 75 11)]) (st := []) (r := (some (.int ((fX12_wrongAt (1 : Int32) (h.1 75 11) h).1)))) (h1 := (fX12_wrongAt (1 : Int32) (h.1 75 11) h).2) (okX12_wrongAt (1 : Int32) (h.1 75 11) h) (fun _ => rfl) mlX12_169 mtX12_wrongAt rfl rfl rfl rfl (Nat.le_of_ble_eq_true rfl) rfl (Nat.le_of_ble_eq_true rfl) dX12_takes_14 ?_
    refine sim_nmP (fun b5 => ?_)
    refine sim_guard (fun c6 => ?_)
    exact sim_zret rfl (nar_b c6) rfl dX12_takes_17
theorem okX12_takes (p1 : Int32) (h : AH) (b : Int32 × AH) (e : fX12_takes p1 h = some b) : Ok yX12_takes cX12_takes 2 (some .boolean) 2 [.ref 75, .int p1] h (some (.int b.1), b.2) := ok_of (sX12_takes p1 h) (by rw [e]; rfl) (by decide +kernel) (Nat.le_of_ble_eq_true rfl)
def fX12_readsTwoLines (h : AH) : Option (Int32 × AH) :=
  (fX12_readsBelow (h.1 75 15) (6 : Int32) h).bind (fun b1 =>
  if b1.1 = 0 then
    some ((0 : Int32), b1.2)
  else
    if (b1.2.1 75 15) < 0 ∨ 20 ≤ (b1.2.1 75 15).toNatClampNeg then none else
    letT (sI b1.2 85 (b1.2.1 75 15).toNatClampNeg (b1.2.1 75 14)) (fun g5 =>
    (fX12_takes (44 : Int32) g5).bind (fun b6 =>
    if b6.1 = 0 then
      some ((0 : Int32), b6.2)
    else
      (fX12_readsBelow (b6.2.1 75 15) (6 : Int32) b6.2).bind (fun b9 =>
      if b9.1 = 0 then
        some ((0 : Int32), b9.2)
      else
        if (b9.2.1 75 15) < 0 ∨ 20 ≤ (b9.2.1 75 15).toNatClampNeg then none else
        letT (sI b9.2 86 (b9.2.1 75 15).toNatClampNeg (b9.2.1 75 14)) (fun g13 =>
        some ((1 : Int32), g13))))))
theorem sX12_readsTwoLines (h : AH) : Sim RX12 cX12_readsTwoLines 1 (some .boolean) 4 (Option.map oI) (fX12_readsTwoLines h) 0 [(0, .ref 75)] [] h := by
  unfold fX12_readsTwoLines
  refine sim_aload_n 0 rfl dX12_readsTwoLines_0 ?_
  refine sim_aload_n 0 rfl dX12_readsTwoLines_1 ?_
  refine sim_getI flX12_173 rfl rfl dX12_readsTwoLines_2 ?_
  refine sim_bipush (v := 6) (by decide) dX12_readsTwoLines_5 ?_
  refine sim_bind (fun b1 e2 => ?_)
  refine sim_cV (As := [.int (h.1 75 15), .int (6 : Int32)]) (st := []) (r := (some (.int b1.1))) (h1 := b1.2) (okX12_readsBelow (h.1 75 15) (6 : Int32) h b1 e2) (fun _ => rfl) mlX12_176 mtX12_readsBelow rfl rfl rfl rfl (Nat.le_of_ble_eq_true rfl) rfl (Nat.le_of_ble_eq_true rfl) dX12_readsTwoLines_7 ?_
  refine sim_if_ne (tgt := 15) dX12_readsTwoLines_10 (by decide) (fun c3 => ?_) (fun c3 => ?_)
  · refine sim_aload_n 0 rfl dX12_readsTwoLines_15 ?_
    refine sim_getR flX12_38 rfl rfl dX12_readsTwoLines_16 ?_
    refine sim_aload_n 0 rfl dX12_readsTwoLines_19 ?_
    refine sim_getI flX12_173 rfl rfl dX12_readsTwoLines_20 ?_
    refine sim_aload_n 0 rfl dX12_readsTwoLines_23 ?_
    refine sim_getI flX12_158 rfl rfl dX12_readsTwoLines_24 ?_
    refine sim_nguard (fun c4 => ?_)
    refine sim_iast rfl c4 dX12_readsTwoLines_27 ?_
    refine sim_nmH (fun g5 => ?_)
    refine sim_aload_n 0 rfl dX12_readsTwoLines_28 ?_
    refine sim_bipush (v := 44) (by decide) dX12_readsTwoLines_29 ?_
    refine sim_bind (fun b6 e7 => ?_)
    refine sim_cV (As := [.int (44 : Int32)]) (st := []) (r := (some (.int b6.1))) (h1 := b6.2) (okX12_takes (44 : Int32) g5 b6 e7) (fun _ => rfl) mlX12_179 mtX12_takes rfl rfl rfl rfl (Nat.le_of_ble_eq_true rfl) rfl (Nat.le_of_ble_eq_true rfl) dX12_readsTwoLines_31 ?_
    refine sim_if_eq (tgt := 50) dX12_readsTwoLines_34 (by decide) (fun c8 => ?_) (fun c8 => ?_)
    · refine sim_iconst (v := 0) (by decide) dX12_readsTwoLines_50 ?_
      exact sim_zret rfl rfl rfl dX12_readsTwoLines_51
    · refine sim_aload_n 0 rfl dX12_readsTwoLines_37 ?_
      refine sim_aload_n 0 rfl dX12_readsTwoLines_38 ?_
      refine sim_getI flX12_173 rfl rfl dX12_readsTwoLines_39 ?_
      refine sim_bipush (v := 6) (by decide) dX12_readsTwoLines_42 ?_
      refine sim_bind (fun b9 e10 => ?_)
      refine sim_cV (As := [.int (b6.2.1 75 15), .int (6 : Int32)]) (st := []) (r := (some (.int b9.1))) (h1 := b9.2) (okX12_readsBelow (b6.2.1 75 15) (6 : Int32) b6.2 b9 e10) (fun _ => rfl) mlX12_176 mtX12_readsBelow rfl rfl rfl rfl (Nat.le_of_ble_eq_true rfl) rfl (Nat.le_of_ble_eq_true rfl) dX12_readsTwoLines_44 ?_
      refine sim_if_ne (tgt := 52) dX12_readsTwoLines_47 (by decide) (fun c11 => ?_) (fun c11 => ?_)
      · refine sim_aload_n 0 rfl dX12_readsTwoLines_52 ?_
        refine sim_getR flX12_41 rfl rfl dX12_readsTwoLines_53 ?_
        refine sim_aload_n 0 rfl dX12_readsTwoLines_56 ?_
        refine sim_getI flX12_173 rfl rfl dX12_readsTwoLines_57 ?_
        refine sim_aload_n 0 rfl dX12_readsTwoLines_60 ?_
        refine sim_getI flX12_158 rfl rfl dX12_readsTwoLines_61 ?_
        refine sim_nguard (fun c12 => ?_)
        refine sim_iast rfl c12 dX12_readsTwoLines_64 ?_
        refine sim_nmH (fun g13 => ?_)
        refine sim_iconst (v := 1) (by decide) dX12_readsTwoLines_65 ?_
        exact sim_zret rfl rfl rfl dX12_readsTwoLines_66
      · refine sim_iconst (v := 0) (by decide) dX12_readsTwoLines_50 ?_
        exact sim_zret rfl rfl rfl dX12_readsTwoLines_51
  · refine sim_iconst (v := 0) (by decide) dX12_readsTwoLines_13 ?_
    exact sim_zret rfl rfl rfl dX12_readsTwoLines_14
theorem okX12_readsTwoLines (h : AH) (b : Int32 × AH) (e : fX12_readsTwoLines h = some b) : Ok yX12_readsTwoLines cX12_readsTwoLines 1 (some .boolean) 4 [.ref 75] h (some (.int b.1), b.2) := ok_of (sX12_readsTwoLines h) (by rw [e]; rfl) (by decide +kernel) (Nat.le_of_ble_eq_true rfl)
def fX12_readsRule (h : AH) : Option (Int32 × AH) :=
  (fX12_here h).bind (fun b1 =>
  letT (fun (w3 : Int32) =>
    if w3 = (-1 : Int32) then
      letT (fX12_wrongAt (1 : Int32) (h.1 75 11) h) (fun b35 =>
      if b35.1 = 0 ∨ b35.1 = 1 then some (b35.1, b35.2) else none)
    else
      letT (sI h 75 11 ((h.1 75 11) + (1 : Int32))) (fun g6 =>
      if (g6.1 75 15) < 0 ∨ 20 ≤ (g6.1 75 15).toNatClampNeg then none else
      letT (sI g6 84 (g6.1 75 15).toNatClampNeg w3) (fun g8 =>
      if (g8.1 75 15) < 0 ∨ 20 ≤ (g8.1 75 15).toNatClampNeg then none else
      letT (sI g8 86 (g8.1 75 15).toNatClampNeg (-2 : Int32)) (fun g10 =>
      if w3 = (3 : Int32) then
        (fX12_readsTwoLines g10).bind (fun b12 =>
        if b12.1 = 0 ∨ b12.1 = 1 then some (b12.1, b12.2) else none)
      else
        if w3 = (4 : Int32) then
          (fX12_readsTwoLines g10).bind (fun b32 =>
          if b32.1 = 0 ∨ b32.1 = 1 then some (b32.1, b32.2) else none)
        else
          if w3 = 0 then
            (fX12_isDigit g10).bind (fun b22 =>
            if b22 = 0 then
              letT (fX12_wrongAt (1 : Int32) (g10.1 75 11) g10) (fun b30 =>
              if b30.1 = 0 ∨ b30.1 = 1 then some (b30.1, b30.2) else none)
            else
              (fX12_here g10).bind (fun b25 =>
              if (g10.1 75 15) < 0 ∨ 20 ≤ (g10.1 75 15).toNatClampNeg then none else
              letT (sI g10 85 (g10.1 75 15).toNatClampNeg (b25 - (48 : Int32))) (fun g28 =>
              letT (sI g28 75 11 ((g28.1 75 11) + (1 : Int32))) (fun g29 =>
              some ((1 : Int32), g29)))))
          else
            (fX12_readsBelow (g10.1 75 15) (6 : Int32) g10).bind (fun b17 =>
            if b17.1 = 0 then
              some ((0 : Int32), b17.2)
            else
              if (b17.2.1 75 15) < 0 ∨ 20 ≤ (b17.2.1 75 15).toNatClampNeg then none else
              letT (sI b17.2 85 (b17.2.1 75 15).toNatClampNeg (b17.2.1 75 14)) (fun g21 =>
              some ((1 : Int32), g21))))))) (fun J4 =>
  if b1 = (97 : Int32) then
    J4 (0 : Int32)
  else
    if b1 = (115 : Int32) then
      J4 (1 : Int32)
    else
      if b1 = (110 : Int32) then
        J4 (2 : Int32)
      else
        if b1 = (43 : Int32) then
          J4 (3 : Int32)
        else
          if b1 = (42 : Int32) then
            J4 (4 : Int32)
          else
            J4 (-1 : Int32)))
theorem sX12_readsRule (h : AH) : Sim RX12 cX12_readsRule 3 (some .boolean) 5 (Option.map oI) (fX12_readsRule h) 0 [(0, .ref 75)] [] h := by
  unfold fX12_readsRule
  refine sim_aload_n 0 rfl dX12_readsRule_0 ?_
  refine sim_bind (fun b1 e2 => ?_)
  refine sim_cV (As := []) (st := []) (r := (some (.int b1))) (h1 := h) (okX12_here h b1 e2) (fun _ => rfl) mlX12_165 mtX12_here rfl rfl rfl rfl (Nat.le_of_ble_eq_true rfl) rfl (Nat.le_of_ble_eq_true rfl) dX12_readsRule_1 ?_
  refine sim_istore_n (L' := [(1, .int b1), (0, .ref 75)]) rfl (by decide) dX12_readsRule_4 ?_
  refine sim_iload_n 0 rfl dX12_readsRule_5 ?_
  refine sim_bipush (v := 97) (by decide) dX12_readsRule_6 ?_
  refine sim_letJ (fun J4 => ∀ (w3 : Int32), Sim RX12 cX12_readsRule 3 (some .boolean) 5 (Option.map oI) (J4 w3) 56 [(0, .ref 75)] [.int w3] h) (fun w3 => ?_) (fun J4 hJ4 => ?_)
  · refine sim_istore_n (L' := [(2, .int w3), (0, .ref 75)]) rfl (by decide) dX12_readsRule_56 ?_
    refine sim_iload_n 0 rfl dX12_readsRule_57 ?_
    refine sim_iconst (v := -1) (by decide) dX12_readsRule_58 ?_
    refine sim_icmp_ne (tgt := 72) dX12_readsRule_59 (by decide) (fun c5 => ?_) (fun c5 => ?_)
    · refine sim_aload_n 1 rfl dX12_readsRule_72 ?_
      refine sim_aload_n 1 rfl dX12_readsRule_73 ?_
      refine sim_getI flX12_155 rfl rfl dX12_readsRule_74 ?_
      refine sim_iconst (v := 1) (by decide) dX12_readsRule_77 ?_
      refine sim_iadd dX12_readsRule_78 ?_
      refine sim_putI fpX12_155 rfl rfl rfl rfl dX12_readsRule_79 ?_
      refine sim_nmH (fun g6 => ?_)
      refine sim_aload_n 1 rfl dX12_readsRule_82 ?_
      refine sim_getR flX12_35 rfl rfl dX12_readsRule_83 ?_
      refine sim_aload_n 1 rfl dX12_readsRule_86 ?_
      refine sim_getI flX12_173 rfl rfl dX12_readsRule_87 ?_
      refine sim_iload_n 0 rfl dX12_readsRule_90 ?_
      refine sim_nguard (fun c7 => ?_)
      refine sim_iast rfl c7 dX12_readsRule_91 ?_
      refine sim_nmH (fun g8 => ?_)
      refine sim_aload_n 1 rfl dX12_readsRule_92 ?_
      refine sim_getR flX12_41 rfl rfl dX12_readsRule_93 ?_
      refine sim_aload_n 1 rfl dX12_readsRule_96 ?_
      refine sim_getI flX12_173 rfl rfl dX12_readsRule_97 ?_
      refine sim_bipush (v := -2) (by decide) dX12_readsRule_100 ?_
      refine sim_nguard (fun c9 => ?_)
      refine sim_iast rfl c9 dX12_readsRule_102 ?_
      refine sim_nmH (fun g10 => ?_)
      refine sim_iload_n 0 rfl dX12_readsRule_103 ?_
      refine sim_iconst (v := 3) (by decide) dX12_readsRule_104 ?_
      refine sim_icmp_eq (tgt := 113) dX12_readsRule_105 (by decide) (fun c11 => ?_) (fun c11 => ?_)
      · refine sim_aload_n 1 rfl dX12_readsRule_113 ?_
        refine sim_bind (fun b12 e13 => ?_)
        refine sim_cV (As := []) (st := []) (r := (some (.int b12.1))) (h1 := b12.2) (okX12_readsTwoLines g10 b12 e13) (fun _ => rfl) mlX12_183 mtX12_readsTwoLines rfl rfl rfl rfl (Nat.le_of_ble_eq_true rfl) rfl (Nat.le_of_ble_eq_true rfl) dX12_readsRule_114 ?_
        refine sim_guard (fun c14 => ?_)
        exact sim_zret rfl (nar_b c14) rfl dX12_readsRule_117
      · refine sim_iload_n 0 rfl dX12_readsRule_108 ?_
        refine sim_iconst (v := 4) (by decide) dX12_readsRule_109 ?_
        refine sim_icmp_ne (tgt := 118) dX12_readsRule_110 (by decide) (fun c15 => ?_) (fun c15 => ?_)
        · refine sim_iload_n 0 rfl dX12_readsRule_118 ?_
          refine sim_if_ne (tgt := 167) dX12_readsRule_119 (by decide) (fun c16 => ?_) (fun c16 => ?_)
          · refine sim_aload_n 1 rfl dX12_readsRule_167 ?_
            refine sim_aload_n 1 rfl dX12_readsRule_168 ?_
            refine sim_getI flX12_173 rfl rfl dX12_readsRule_169 ?_
            refine sim_bipush (v := 6) (by decide) dX12_readsRule_172 ?_
            refine sim_bind (fun b17 e18 => ?_)
            refine sim_cV (As := [.int (g10.1 75 15), .int (6 : Int32)]) (st := []) (r := (some (.int b17.1))) (h1 := b17.2) (okX12_readsBelow (g10.1 75 15) (6 : Int32) g10 b17 e18) (fun _ => rfl) mlX12_176 mtX12_readsBelow rfl rfl rfl rfl (Nat.le_of_ble_eq_true rfl) rfl (Nat.le_of_ble_eq_true rfl) dX12_readsRule_174 ?_
            refine sim_if_ne (tgt := 182) dX12_readsRule_177 (by decide) (fun c19 => ?_) (fun c19 => ?_)
            · refine sim_aload_n 1 rfl dX12_readsRule_182 ?_
              refine sim_getR flX12_38 rfl rfl dX12_readsRule_183 ?_
              refine sim_aload_n 1 rfl dX12_readsRule_186 ?_
              refine sim_getI flX12_173 rfl rfl dX12_readsRule_187 ?_
              refine sim_aload_n 1 rfl dX12_readsRule_190 ?_
              refine sim_getI flX12_158 rfl rfl dX12_readsRule_191 ?_
              refine sim_nguard (fun c20 => ?_)
              refine sim_iast rfl c20 dX12_readsRule_194 ?_
              refine sim_nmH (fun g21 => ?_)
              refine sim_iconst (v := 1) (by decide) dX12_readsRule_195 ?_
              exact sim_zret rfl rfl rfl dX12_readsRule_196
            · refine sim_iconst (v := 0) (by decide) dX12_readsRule_180 ?_
              exact sim_zret rfl rfl rfl dX12_readsRule_181
          · refine sim_aload_n 1 rfl dX12_readsRule_122 ?_
            refine sim_bind (fun b22 e23 => ?_)
            refine sim_cV (As := []) (st := []) (r := (some (.int b22))) (h1 := g10) (okX12_isDigit g10 b22 e23) (fun _ => rfl) mlX12_161 mtX12_isDigit rfl rfl rfl rfl (Nat.le_of_ble_eq_true rfl) rfl (Nat.le_of_ble_eq_true rfl) dX12_readsRule_123 ?_
            refine sim_if_ne (tgt := 139) dX12_readsRule_126 (by decide) (fun c24 => ?_) (fun c24 => ?_)
            · refine sim_aload_n 1 rfl dX12_readsRule_139 ?_
              refine sim_getR flX12_38 rfl rfl dX12_readsRule_140 ?_
              refine sim_aload_n 1 rfl dX12_readsRule_143 ?_
              refine sim_getI flX12_173 rfl rfl dX12_readsRule_144 ?_
              refine sim_aload_n 1 rfl dX12_readsRule_147 ?_
              refine sim_bind (fun b25 e26 => ?_)
              refine sim_cV (As := []) (st := [.int (g10.1 75 15), .ref 85]) (r := (some (.int b25))) (h1 := g10) (okX12_here g10 b25 e26) (fun _ => rfl) mlX12_165 mtX12_here rfl rfl rfl rfl (Nat.le_of_ble_eq_true rfl) rfl (Nat.le_of_ble_eq_true rfl) dX12_readsRule_148 ?_
              refine sim_bipush (v := 48) (by decide) dX12_readsRule_151 ?_
              refine sim_isub dX12_readsRule_153 ?_
              refine sim_nguard (fun c27 => ?_)
              refine sim_iast rfl c27 dX12_readsRule_154 ?_
              refine sim_nmH (fun g28 => ?_)
              refine sim_aload_n 1 rfl dX12_readsRule_155 ?_
              refine sim_aload_n 1 rfl dX12_readsRule_156 ?_
              refine sim_getI flX12_155 rfl rfl dX12_readsRule_157 ?_
              refine sim_iconst (v := 1) (by decide) dX12_readsRule_160 ?_
              refine sim_iadd dX12_readsRule_161 ?_
              refine sim_putI fpX12_155 rfl rfl rfl rfl dX12_readsRule_162 ?_
              refine sim_nmH (fun g29 => ?_)
              refine sim_iconst (v := 1) (by decide) dX12_readsRule_165 ?_
              exact sim_zret rfl rfl rfl dX12_readsRule_166
            · refine sim_aload_n 1 rfl dX12_readsRule_129 ?_
              refine sim_iconst (v := 1) (by decide) dX12_readsRule_130 ?_
              refine sim_aload_n 1 rfl dX12_readsRule_131 ?_
              refine sim_getI flX12_155 rfl rfl dX12_readsRule_132 ?_
              refine sim_cV (As := [.int (1 : Int32), .int (g10.1 75 11)]) (st := []) (r := (some (.int ((fX12_wrongAt (1 : Int32) (g10.1 75 11) g10).1)))) (h1 := (fX12_wrongAt (1 : Int32) (g10.1 75 11) g10).2) (okX12_wrongAt (1 : Int32) (g10.1 75 11) g10) (fun _ => rfl) mlX12_169 mtX12_wrongAt rfl rfl rfl rfl (Nat.le_of_ble_eq_true rfl) rfl (Nat.le_of_ble_eq_true rfl) dX12_readsRule_135 ?_
              refine sim_nmP (fun b30 => ?_)
              refine sim_guard (fun c31 => ?_)
              exact sim_zret rfl (nar_b c31) rfl dX12_readsRule_138
        · refine sim_aload_n 1 rfl dX12_readsRule_113 ?_
          refine sim_bind (fun b32 e33 => ?_)
          refine sim_cV (As := []) (st := []) (r := (some (.int b32.1))) (h1 := b32.2) (okX12_readsTwoLines g10 b32 e33) (fun _ => rfl) mlX12_183 mtX12_readsTwoLines rfl rfl rfl rfl (Nat.le_of_ble_eq_true rfl) rfl (Nat.le_of_ble_eq_true rfl) dX12_readsRule_114 ?_
          refine sim_guard (fun c34 => ?_)
          exact sim_zret rfl (nar_b c34) rfl dX12_readsRule_117
    · refine sim_aload_n 1 rfl dX12_readsRule_62 ?_
      refine sim_iconst (v := 1) (by decide) dX12_readsRule_63 ?_
      refine sim_aload_n 1 rfl dX12_readsRule_64 ?_
      refine sim_getI flX12_155 rfl rfl dX12_readsRule_65 ?_
      refine sim_cV (As := [.int (1 : Int32), .int (h.1 75 11)]) (st := []) (r := (some (.int ((fX12_wrongAt (1 : Int32) (h.1 75 11) h).1)))) (h1 := (fX12_wrongAt (1 : Int32) (h.1 75 11) h).2) (okX12_wrongAt (1 : Int32) (h.1 75 11) h) (fun _ => rfl) mlX12_169 mtX12_wrongAt rfl rfl rfl rfl (Nat.le_of_ble_eq_true rfl) rfl (Nat.le_of_ble_eq_true rfl) dX12_readsRule_68 ?_
      refine sim_nmP (fun b35 => ?_)
      refine sim_guard (fun c36 => ?_)
      exact sim_zret rfl (nar_b c36) rfl dX12_readsRule_71
  refine sim_icmp_ne (tgt := 15) dX12_readsRule_8 (by decide) (fun c37 => ?_) (fun c37 => ?_)
  · refine sim_iload_n 0 rfl dX12_readsRule_15 ?_
    refine sim_bipush (v := 115) (by decide) dX12_readsRule_16 ?_
    refine sim_icmp_ne (tgt := 25) dX12_readsRule_18 (by decide) (fun c38 => ?_) (fun c38 => ?_)
    · refine sim_iload_n 0 rfl dX12_readsRule_25 ?_
      refine sim_bipush (v := 110) (by decide) dX12_readsRule_26 ?_
      refine sim_icmp_ne (tgt := 35) dX12_readsRule_28 (by decide) (fun c39 => ?_) (fun c39 => ?_)
      · refine sim_iload_n 0 rfl dX12_readsRule_35 ?_
        refine sim_bipush (v := 43) (by decide) dX12_readsRule_36 ?_
        refine sim_icmp_ne (tgt := 45) dX12_readsRule_38 (by decide) (fun c40 => ?_) (fun c40 => ?_)
        · refine sim_iload_n 0 rfl dX12_readsRule_45 ?_
          refine sim_bipush (v := 42) (by decide) dX12_readsRule_46 ?_
          refine sim_icmp_ne (tgt := 55) dX12_readsRule_48 (by decide) (fun c41 => ?_) (fun c41 => ?_)
          · refine sim_iconst (v := -1) (by decide) dX12_readsRule_55 ?_
            refine sim_sub [1] rfl ?_
            exact hJ4 (-1 : Int32)
          · refine sim_iconst (v := 4) (by decide) dX12_readsRule_51 ?_
            refine sim_goto (tgt := 56) dX12_readsRule_52 (by decide) ?_
            refine sim_sub [1] rfl ?_
            exact hJ4 (4 : Int32)
        · refine sim_iconst (v := 3) (by decide) dX12_readsRule_41 ?_
          refine sim_goto (tgt := 56) dX12_readsRule_42 (by decide) ?_
          refine sim_sub [1] rfl ?_
          exact hJ4 (3 : Int32)
      · refine sim_iconst (v := 2) (by decide) dX12_readsRule_31 ?_
        refine sim_goto (tgt := 56) dX12_readsRule_32 (by decide) ?_
        refine sim_sub [1] rfl ?_
        exact hJ4 (2 : Int32)
    · refine sim_iconst (v := 1) (by decide) dX12_readsRule_21 ?_
      refine sim_goto (tgt := 56) dX12_readsRule_22 (by decide) ?_
      refine sim_sub [1] rfl ?_
      exact hJ4 (1 : Int32)
  · refine sim_iconst (v := 0) (by decide) dX12_readsRule_11 ?_
    refine sim_goto (tgt := 56) dX12_readsRule_12 (by decide) ?_
    refine sim_sub [1] rfl ?_
    exact hJ4 (0 : Int32)
theorem okX12_readsRule (h : AH) (b : Int32 × AH) (e : fX12_readsRule h = some b) : Ok yX12_readsRule cX12_readsRule 3 (some .boolean) 5 [.ref 75] h (some (.int b.1), b.2) := ok_of (sX12_readsRule h) (by rw [e]; rfl) (by decide +kernel) (Nat.le_of_ble_eq_true rfl)
def fX12_readsLine (h : AH) : Option (Int32 × AH) :=
  (fX12_isDigit h).bind (fun b1 =>
  if b1 = 0 then
    letT (fX12_wrongAt (1 : Int32) (h.1 75 11) h) (fun b19 =>
    if b19.1 = 0 ∨ b19.1 = 1 then some (b19.1, b19.2) else none)
  else
    if (h.1 75 15) = (20 : Int32) then
      letT (fX12_wrongAt (4 : Int32) (h.1 75 11) h) (fun b17 =>
      if b17.1 = 0 ∨ b17.1 = 1 then some (b17.1, b17.2) else none)
    else
      (fX12_readsBelow (h.1 75 0) (3 : Int32) h).bind (fun b5 =>
      if b5.1 = 0 then
        some ((0 : Int32), b5.2)
      else
        if (b5.2.1 75 15) < 0 ∨ 20 ≤ (b5.2.1 75 15).toNatClampNeg then none else
        letT (sI b5.2 83 (b5.2.1 75 15).toNatClampNeg (b5.2.1 75 14)) (fun g9 =>
        (fX12_takes (61 : Int32) g9).bind (fun b10 =>
        if b10.1 = 0 then
          some ((0 : Int32), b10.2)
        else
          (fX12_readsRule b10.2).bind (fun b13 =>
          if b13.1 = 0 then
            some ((0 : Int32), b13.2)
          else
            letT (sI b13.2 75 15 ((b13.2.1 75 15) + (1 : Int32))) (fun g16 =>
            some ((1 : Int32), g16)))))))
theorem sX12_readsLine (h : AH) : Sim RX12 cX12_readsLine 1 (some .boolean) 6 (Option.map oI) (fX12_readsLine h) 0 [(0, .ref 75)] [] h := by
  unfold fX12_readsLine
  refine sim_aload_n 0 rfl dX12_readsLine_0 ?_
  refine sim_bind (fun b1 e2 => ?_)
  refine sim_cV (As := []) (st := []) (r := (some (.int b1))) (h1 := h) (okX12_isDigit h b1 e2) (fun _ => rfl) mlX12_161 mtX12_isDigit rfl rfl rfl rfl (Nat.le_of_ble_eq_true rfl) rfl (Nat.le_of_ble_eq_true rfl) dX12_readsLine_1 ?_
  refine sim_if_ne (tgt := 17) dX12_readsLine_4 (by decide) (fun c3 => ?_) (fun c3 => ?_)
  · refine sim_aload_n 0 rfl dX12_readsLine_17 ?_
    refine sim_getI flX12_173 rfl rfl dX12_readsLine_18 ?_
    refine sim_bipush (v := 20) (by decide) dX12_readsLine_21 ?_
    refine sim_icmp_ne (tgt := 36) dX12_readsLine_23 (by decide) (fun c4 => ?_) (fun c4 => ?_)
    · refine sim_aload_n 0 rfl dX12_readsLine_36 ?_
      refine sim_aload_n 0 rfl dX12_readsLine_37 ?_
      refine sim_getI flX12_134 rfl rfl dX12_readsLine_38 ?_
      refine sim_iconst (v := 3) (by decide) dX12_readsLine_41 ?_
      refine sim_bind (fun b5 e6 => ?_)
      refine sim_cV (As := [.int (h.1 75 0), .int (3 : Int32)]) (st := []) (r := (some (.int b5.1))) (h1 := b5.2) (okX12_readsBelow (h.1 75 0) (3 : Int32) h b5 e6) (fun _ => rfl) mlX12_176 mtX12_readsBelow rfl rfl rfl rfl (Nat.le_of_ble_eq_true rfl) rfl (Nat.le_of_ble_eq_true rfl) dX12_readsLine_42 ?_
      refine sim_if_ne (tgt := 50) dX12_readsLine_45 (by decide) (fun c7 => ?_) (fun c7 => ?_)
      · refine sim_aload_n 0 rfl dX12_readsLine_50 ?_
        refine sim_getR flX12_32 rfl rfl dX12_readsLine_51 ?_
        refine sim_aload_n 0 rfl dX12_readsLine_54 ?_
        refine sim_getI flX12_173 rfl rfl dX12_readsLine_55 ?_
        refine sim_aload_n 0 rfl dX12_readsLine_58 ?_
        refine sim_getI flX12_158 rfl rfl dX12_readsLine_59 ?_
        refine sim_nguard (fun c8 => ?_)
        refine sim_iast rfl c8 dX12_readsLine_62 ?_
        refine sim_nmH (fun g9 => ?_)
        refine sim_aload_n 0 rfl dX12_readsLine_63 ?_
        refine sim_bipush (v := 61) (by decide) dX12_readsLine_64 ?_
        refine sim_bind (fun b10 e11 => ?_)
        refine sim_cV (As := [.int (61 : Int32)]) (st := []) (r := (some (.int b10.1))) (h1 := b10.2) (okX12_takes (61 : Int32) g9 b10 e11) (fun _ => rfl) mlX12_179 mtX12_takes rfl rfl rfl rfl (Nat.le_of_ble_eq_true rfl) rfl (Nat.le_of_ble_eq_true rfl) dX12_readsLine_66 ?_
        refine sim_if_eq (tgt := 79) dX12_readsLine_69 (by decide) (fun c12 => ?_) (fun c12 => ?_)
        · refine sim_iconst (v := 0) (by decide) dX12_readsLine_79 ?_
          exact sim_zret rfl rfl rfl dX12_readsLine_80
        · refine sim_aload_n 0 rfl dX12_readsLine_72 ?_
          refine sim_bind (fun b13 e14 => ?_)
          refine sim_cV (As := []) (st := []) (r := (some (.int b13.1))) (h1 := b13.2) (okX12_readsRule b10.2 b13 e14) (fun _ => rfl) mlX12_186 mtX12_readsRule rfl rfl rfl rfl (Nat.le_of_ble_eq_true rfl) rfl (Nat.le_of_ble_eq_true rfl) dX12_readsLine_73 ?_
          refine sim_if_ne (tgt := 81) dX12_readsLine_76 (by decide) (fun c15 => ?_) (fun c15 => ?_)
          · refine sim_aload_n 0 rfl dX12_readsLine_81 ?_
            refine sim_aload_n 0 rfl dX12_readsLine_82 ?_
            refine sim_getI flX12_173 rfl rfl dX12_readsLine_83 ?_
            refine sim_iconst (v := 1) (by decide) dX12_readsLine_86 ?_
            refine sim_iadd dX12_readsLine_87 ?_
            refine sim_putI fpX12_173 rfl rfl rfl rfl dX12_readsLine_88 ?_
            refine sim_nmH (fun g16 => ?_)
            refine sim_iconst (v := 1) (by decide) dX12_readsLine_91 ?_
            exact sim_zret rfl rfl rfl dX12_readsLine_92
          · refine sim_iconst (v := 0) (by decide) dX12_readsLine_79 ?_
            exact sim_zret rfl rfl rfl dX12_readsLine_80
      · refine sim_iconst (v := 0) (by decide) dX12_readsLine_48 ?_
        exact sim_zret rfl rfl rfl dX12_readsLine_49
    · refine sim_aload_n 0 rfl dX12_readsLine_26 ?_
      refine sim_iconst (v := 4) (by decide) dX12_readsLine_27 ?_
      refine sim_aload_n 0 rfl dX12_readsLine_28 ?_
      refine sim_getI flX12_155 rfl rfl dX12_readsLine_29 ?_
      refine sim_cV (As := [.int (4 : Int32), .int (h.1 75 11)]) (st := []) (r := (some (.int ((fX12_wrongAt (4 : Int32) (h.1 75 11) h).1)))) (h1 := (fX12_wrongAt (4 : Int32) (h.1 75 11) h).2) (okX12_wrongAt (4 : Int32) (h.1 75 11) h) (fun _ => rfl) mlX12_169 mtX12_wrongAt rfl rfl rfl rfl (Nat.le_of_ble_eq_true rfl) rfl (Nat.le_of_ble_eq_true rfl) dX12_readsLine_32 ?_
      refine sim_nmP (fun b17 => ?_)
      refine sim_guard (fun c18 => ?_)
      exact sim_zret rfl (nar_b c18) rfl dX12_readsLine_35
  · refine sim_aload_n 0 rfl dX12_readsLine_7 ?_
    refine sim_iconst (v := 1) (by decide) dX12_readsLine_8 ?_
    refine sim_aload_n 0 rfl dX12_readsLine_9 ?_
    refine sim_getI flX12_155 rfl rfl dX12_readsLine_10 ?_
    refine sim_cV (As := [.int (1 : Int32), .int (h.1 75 11)]) (st := []) (r := (some (.int ((fX12_wrongAt (1 : Int32) (h.1 75 11) h).1)))) (h1 := (fX12_wrongAt (1 : Int32) (h.1 75 11) h).2) (okX12_wrongAt (1 : Int32) (h.1 75 11) h) (fun _ => rfl) mlX12_169 mtX12_wrongAt rfl rfl rfl rfl (Nat.le_of_ble_eq_true rfl) rfl (Nat.le_of_ble_eq_true rfl) dX12_readsLine_13 ?_
    refine sim_nmP (fun b19 => ?_)
    refine sim_guard (fun c20 => ?_)
    exact sim_zret rfl (nar_b c20) rfl dX12_readsLine_16
theorem okX12_readsLine (h : AH) (b : Int32 × AH) (e : fX12_readsLine h = some b) : Ok yX12_readsLine cX12_readsLine 1 (some .boolean) 6 [.ref 75] h (some (.int b.1), b.2) := ok_of (sX12_readsLine h) (by rw [e]; rfl) (by decide +kernel) (Nat.le_of_ble_eq_true rfl)
def fX12_proof_l41b (rec : Int32 → AH → Option (Int32 × AH)) (K81 : Int32 → AH → Option (Int32 × AH)) (x2 : Int32) (h : AH) : Option (Int32 × AH) :=
  if x2 = 0 then
    K81 x2 h
  else
    if (h.1 75 11) < (h.1 75 12) then
      (fX12_takes (59 : Int32) h).bind (fun b10 =>
      if b10.1 = 0 then
        rec (0 : Int32) b10.2
      else
        (fX12_readsLine b10.2).bind (fun b13 =>
        if b13.1 = 0 then
          rec (0 : Int32) b13.2
        else
          rec (1 : Int32) b13.2))
    else
      K81 x2 h
def fX12_proof_l41 (K81 : Int32 → AH → Option (Int32 × AH)) : Nat → Int32 → AH → Option (Int32 × AH)
  | 0, _, _ => none
  | n + 1, x2, h => fX12_proof_l41b (fX12_proof_l41 K81 n) K81 x2 h
theorem sX12_proof_l41b {rec : Int32 → AH → Option (Int32 × AH)} {K81 : Int32 → AH → Option (Int32 × AH)} (hR : ∀ (x2 : Int32) (h : AH), Sim RX12 cX12_proof 4 (some .int) 7 (Option.map oI) (rec x2 h) 41 [(0, .ref 75), (2, .int x2)] [] h) (hK81 : ∀ (y2 : Int32) (g : AH), Sim RX12 cX12_proof 4 (some .int) 7 (Option.map oI) (K81 y2 g) 81 [(0, .ref 75), (2, .int y2)] [] g) : ∀ (x2 : Int32) (h : AH), Sim RX12 cX12_proof 4 (some .int) 7 (Option.map oI) (fX12_proof_l41b rec K81 x2 h) 41 [(0, .ref 75), (2, .int x2)] [] h := by
  intro x2 h
  unfold fX12_proof_l41b
  refine sim_iload_n 1 rfl dX12_proof_41 ?_
  refine sim_if_eq (tgt := 81) dX12_proof_42 (by decide) (fun c8 => ?_) (fun c8 => ?_)
  · exact hK81 x2 h
  · refine sim_aload_n 0 rfl dX12_proof_45 ?_
    refine sim_getI flX12_155 rfl rfl dX12_proof_46 ?_
    refine sim_aload_n 0 rfl dX12_proof_49 ?_
    refine sim_getI flX12_189 rfl rfl dX12_proof_50 ?_
    refine sim_icmp_ge (tgt := 81) dX12_proof_53 (by decide) (fun c9 => ?_) (fun c9 => ?_)
    · exact hK81 x2 h
    · refine sim_aload_n 0 rfl dX12_proof_56 ?_
      refine sim_bipush (v := 59) (by decide) dX12_proof_57 ?_
      refine sim_bind (fun b10 e11 => ?_)
      refine sim_cV (As := [.int (59 : Int32)]) (st := []) (r := (some (.int b10.1))) (h1 := b10.2) (okX12_takes (59 : Int32) h b10 e11) (fun _ => rfl) mlX12_179 mtX12_takes rfl rfl rfl rfl (Nat.le_of_ble_eq_true rfl) rfl (Nat.le_of_ble_eq_true rfl) dX12_proof_59 ?_
      refine sim_if_eq (tgt := 76) dX12_proof_62 (by decide) (fun c12 => ?_) (fun c12 => ?_)
      · refine sim_iconst (v := 0) (by decide) dX12_proof_76 ?_
        refine sim_istore_n (L' := [(2, .int (0 : Int32)), (0, .ref 75)]) rfl (by decide) dX12_proof_77 ?_
        refine sim_goto (tgt := 41) dX12_proof_78 (by decide) ?_
        refine sim_sub [1, 0] rfl ?_
        exact hR (0 : Int32) b10.2
      · refine sim_aload_n 0 rfl dX12_proof_65 ?_
        refine sim_bind (fun b13 e14 => ?_)
        refine sim_cV (As := []) (st := []) (r := (some (.int b13.1))) (h1 := b13.2) (okX12_readsLine b10.2 b13 e14) (fun _ => rfl) mlX12_192 mtX12_readsLine rfl rfl rfl rfl (Nat.le_of_ble_eq_true rfl) rfl (Nat.le_of_ble_eq_true rfl) dX12_proof_66 ?_
        refine sim_if_eq (tgt := 76) dX12_proof_69 (by decide) (fun c15 => ?_) (fun c15 => ?_)
        · refine sim_iconst (v := 0) (by decide) dX12_proof_76 ?_
          refine sim_istore_n (L' := [(2, .int (0 : Int32)), (0, .ref 75)]) rfl (by decide) dX12_proof_77 ?_
          refine sim_goto (tgt := 41) dX12_proof_78 (by decide) ?_
          refine sim_sub [1, 0] rfl ?_
          exact hR (0 : Int32) b13.2
        · refine sim_iconst (v := 1) (by decide) dX12_proof_72 ?_
          refine sim_goto (tgt := 77) dX12_proof_73 (by decide) ?_
          refine sim_istore_n (L' := [(2, .int (1 : Int32)), (0, .ref 75)]) rfl (by decide) dX12_proof_77 ?_
          refine sim_goto (tgt := 41) dX12_proof_78 (by decide) ?_
          refine sim_sub [1, 0] rfl ?_
          exact hR (1 : Int32) b13.2
theorem sX12_proof_l41 {K81 : Int32 → AH → Option (Int32 × AH)} (hK81 : ∀ (y2 : Int32) (g : AH), Sim RX12 cX12_proof 4 (some .int) 7 (Option.map oI) (K81 y2 g) 81 [(0, .ref 75), (2, .int y2)] [] g) : ∀ (n : Nat) (x2 : Int32) (h : AH), Sim RX12 cX12_proof 4 (some .int) 7 (Option.map oI) (fX12_proof_l41 K81 n x2 h) 41 [(0, .ref 75), (2, .int x2)] [] h := by
  intro n
  induction n with
  | zero => intro x2 h; exact sim_none
  | succ n ih => intro x2 h; exact sX12_proof_l41b ih hK81 x2 h
def fX12_proof_l105b (rec : Int32 → AH → Option (Int32 × AH)) (x3 : Int32) (h : AH) : Option (Int32 × AH) :=
  if x3 < (h.1 75 2) then
    if x3 < 0 ∨ 20 ≤ x3.toNatClampNeg then none else
    if x3 < 0 ∨ 20 ≤ x3.toNatClampNeg then none else
    letT (sI h 77 x3.toNatClampNeg (h.1 83 x3.toNatClampNeg)) (fun g24 =>
    if x3 < 0 ∨ 20 ≤ x3.toNatClampNeg then none else
    if x3 < 0 ∨ 20 ≤ x3.toNatClampNeg then none else
    letT (sI g24 78 x3.toNatClampNeg (g24.1 84 x3.toNatClampNeg)) (fun g27 =>
    if x3 < 0 ∨ 20 ≤ x3.toNatClampNeg then none else
    if x3 < 0 ∨ 20 ≤ x3.toNatClampNeg then none else
    letT (sI g27 79 x3.toNatClampNeg (g27.1 85 x3.toNatClampNeg)) (fun g30 =>
    if x3 < 0 ∨ 20 ≤ x3.toNatClampNeg then none else
    if x3 < 0 ∨ 20 ≤ x3.toNatClampNeg then none else
    letT (sI g30 80 x3.toNatClampNeg (g30.1 86 x3.toNatClampNeg)) (fun g33 =>
    rec (x3 + 1) g33))))
  else
    some (h.1 75 2, h)
def fX12_proof_l105 : Nat → Int32 → AH → Option (Int32 × AH)
  | 0, _, _ => none
  | n + 1, x3, h => fX12_proof_l105b (fX12_proof_l105 n) x3 h
theorem sX12_proof_l105b {rec : Int32 → AH → Option (Int32 × AH)} (hR : ∀ (x3 : Int32) (h : AH), Sim RX12 cX12_proof 4 (some .int) 7 (Option.map oI) (rec x3 h) 105 [(0, .ref 75), (3, .int x3)] [] h) : ∀ (x3 : Int32) (h : AH), Sim RX12 cX12_proof 4 (some .int) 7 (Option.map oI) (fX12_proof_l105b rec x3 h) 105 [(0, .ref 75), (3, .int x3)] [] h := by
  intro x3 h
  unfold fX12_proof_l105b
  refine sim_iload_n 1 rfl dX12_proof_105 ?_
  refine sim_aload_n 0 rfl dX12_proof_106 ?_
  refine sim_getI flX12_145 rfl rfl dX12_proof_107 ?_
  refine sim_icmp_ge (tgt := 167) dX12_proof_110 (by decide) (fun c21 => ?_) (fun c21 => ?_)
  · refine sim_aload_n 0 rfl dX12_proof_167 ?_
    refine sim_getI flX12_145 rfl rfl dX12_proof_168 ?_
    exact sim_iret rfl rfl dX12_proof_171
  · refine sim_aload_n 0 rfl dX12_proof_113 ?_
    refine sim_getR flX12_13 rfl rfl dX12_proof_114 ?_
    refine sim_iload_n 1 rfl dX12_proof_117 ?_
    refine sim_aload_n 0 rfl dX12_proof_118 ?_
    refine sim_getR flX12_32 rfl rfl dX12_proof_119 ?_
    refine sim_iload_n 1 rfl dX12_proof_122 ?_
    refine sim_nguard (fun c22 => ?_)
    refine sim_iald rfl c22 dX12_proof_123 ?_
    refine sim_nguard (fun c23 => ?_)
    refine sim_iast rfl c23 dX12_proof_124 ?_
    refine sim_nmH (fun g24 => ?_)
    refine sim_aload_n 0 rfl dX12_proof_125 ?_
    refine sim_getR flX12_16 rfl rfl dX12_proof_126 ?_
    refine sim_iload_n 1 rfl dX12_proof_129 ?_
    refine sim_aload_n 0 rfl dX12_proof_130 ?_
    refine sim_getR flX12_35 rfl rfl dX12_proof_131 ?_
    refine sim_iload_n 1 rfl dX12_proof_134 ?_
    refine sim_nguard (fun c25 => ?_)
    refine sim_iald rfl c25 dX12_proof_135 ?_
    refine sim_nguard (fun c26 => ?_)
    refine sim_iast rfl c26 dX12_proof_136 ?_
    refine sim_nmH (fun g27 => ?_)
    refine sim_aload_n 0 rfl dX12_proof_137 ?_
    refine sim_getR flX12_19 rfl rfl dX12_proof_138 ?_
    refine sim_iload_n 1 rfl dX12_proof_141 ?_
    refine sim_aload_n 0 rfl dX12_proof_142 ?_
    refine sim_getR flX12_38 rfl rfl dX12_proof_143 ?_
    refine sim_iload_n 1 rfl dX12_proof_146 ?_
    refine sim_nguard (fun c28 => ?_)
    refine sim_iald rfl c28 dX12_proof_147 ?_
    refine sim_nguard (fun c29 => ?_)
    refine sim_iast rfl c29 dX12_proof_148 ?_
    refine sim_nmH (fun g30 => ?_)
    refine sim_aload_n 0 rfl dX12_proof_149 ?_
    refine sim_getR flX12_22 rfl rfl dX12_proof_150 ?_
    refine sim_iload_n 1 rfl dX12_proof_153 ?_
    refine sim_aload_n 0 rfl dX12_proof_154 ?_
    refine sim_getR flX12_41 rfl rfl dX12_proof_155 ?_
    refine sim_iload_n 1 rfl dX12_proof_158 ?_
    refine sim_nguard (fun c31 => ?_)
    refine sim_iald rfl c31 dX12_proof_159 ?_
    refine sim_nguard (fun c32 => ?_)
    refine sim_iast rfl c32 dX12_proof_160 ?_
    refine sim_nmH (fun g33 => ?_)
    refine sim_iinc (v := x3 + 1) (L' := [(3, .int (x3 + 1)), (0, .ref 75)]) 1 rfl rfl rfl (by decide) dX12_proof_161 ?_
    refine sim_goto (tgt := 105) dX12_proof_164 (by decide) ?_
    refine sim_sub [1, 0] rfl ?_
    exact hR (x3 + 1) g33
theorem sX12_proof_l105 : ∀ (n : Nat) (x3 : Int32) (h : AH), Sim RX12 cX12_proof 4 (some .int) 7 (Option.map oI) (fX12_proof_l105 n x3 h) 105 [(0, .ref 75), (3, .int x3)] [] h := by
  intro n
  induction n with
  | zero => intro x3 h; exact sim_none
  | succ n ih => intro x3 h; exact sX12_proof_l105b ih x3 h
def fX12_proof (p1 : Int32) (h : AH) : Option (Int32 × AH) :=
  if (fX12_in p1 (1 : Int32) (200 : Int32) h) = 0 then
    some ((-1 : Int32), h)
  else
    if (h.1 75 10) < p1 then
      some ((-1 : Int32), h)
    else
      letT (sI h 75 11 (0 : Int32)) (fun g3 =>
      letT (sI g3 75 12 p1) (fun g4 =>
      letT (sI g4 75 15 (0 : Int32)) (fun g5 =>
      (fX12_readsLine g5).bind (fun b6 =>
      fX12_proof_l41 (fun (y16 : Int32) (g17 : AH) =>
        letT (sI g17 75 10 (0 : Int32)) (fun g18 =>
        if y16 = 0 then
          some (g18.1 75 13, g18)
        else
          letT (sI g18 75 2 (g18.1 75 15)) (fun g20 =>
          fX12_proof_l105 fuel0 (0 : Int32) g20))) fuel0 b6.1 b6.2))))
theorem sX12_proof (p1 : Int32) (h : AH) : Sim RX12 cX12_proof 4 (some .int) 7 (Option.map oI) (fX12_proof p1 h) 0 [(0, .ref 75), (1, .int p1)] [] h := by
  unfold fX12_proof
  refine sim_iload_n 1 rfl dX12_proof_0 ?_
  refine sim_iconst (v := 1) (by decide) dX12_proof_1 ?_
  refine sim_sipush (v := 200) (by decide) dX12_proof_2 ?_
  refine sim_cS (As := [.int p1, .int (1 : Int32), .int (200 : Int32)]) (st := []) (r := (some (.int (fX12_in p1 (1 : Int32) (200 : Int32) h)))) (h1 := h) (okX12_in p1 (1 : Int32) (200 : Int32) h) (fun _ => rfl) mlX12_141 mtX12_in rfl (Nat.le_of_ble_eq_true rfl) rfl (Nat.le_of_ble_eq_true rfl) dX12_proof_5 ?_
  refine sim_if_eq (tgt := 19) dX12_proof_8 (by decide) (fun c1 => ?_) (fun c1 => ?_)
  · refine sim_iconst (v := -1) (by decide) dX12_proof_19 ?_
    exact sim_iret rfl rfl dX12_proof_20
  · refine sim_iload_n 1 rfl dX12_proof_11 ?_
    refine sim_aload_n 0 rfl dX12_proof_12 ?_
    refine sim_getI flX12_148 rfl rfl dX12_proof_13 ?_
    refine sim_icmp_le (tgt := 21) dX12_proof_16 (by decide) (fun c2 => ?_) (fun c2 => ?_)
    · refine sim_aload_n 0 rfl dX12_proof_21 ?_
      refine sim_iconst (v := 0) (by decide) dX12_proof_22 ?_
      refine sim_putI fpX12_155 rfl rfl rfl rfl dX12_proof_23 ?_
      refine sim_nmH (fun g3 => ?_)
      refine sim_aload_n 0 rfl dX12_proof_26 ?_
      refine sim_iload_n 1 rfl dX12_proof_27 ?_
      refine sim_putI fpX12_189 rfl rfl rfl rfl dX12_proof_28 ?_
      refine sim_nmH (fun g4 => ?_)
      refine sim_aload_n 0 rfl dX12_proof_31 ?_
      refine sim_iconst (v := 0) (by decide) dX12_proof_32 ?_
      refine sim_putI fpX12_173 rfl rfl rfl rfl dX12_proof_33 ?_
      refine sim_nmH (fun g5 => ?_)
      refine sim_aload_n 0 rfl dX12_proof_36 ?_
      refine sim_bind (fun b6 e7 => ?_)
      refine sim_cV (As := []) (st := []) (r := (some (.int b6.1))) (h1 := b6.2) (okX12_readsLine g5 b6 e7) (fun _ => rfl) mlX12_192 mtX12_readsLine rfl rfl rfl rfl (Nat.le_of_ble_eq_true rfl) rfl (Nat.le_of_ble_eq_true rfl) dX12_proof_37 ?_
      refine sim_istore_n (L' := [(2, .int b6.1), (0, .ref 75), (1, .int p1)]) rfl (by decide) dX12_proof_40 ?_
      refine sim_sub [1, 0] rfl ?_
      refine sX12_proof_l41 (fun y16 g17 => ?_) _ b6.1 b6.2
      · refine sim_aload_n 0 rfl dX12_proof_81 ?_
        refine sim_iconst (v := 0) (by decide) dX12_proof_82 ?_
        refine sim_putI fpX12_148 rfl rfl rfl rfl dX12_proof_83 ?_
        refine sim_nmH (fun g18 => ?_)
        refine sim_iload_n 1 rfl dX12_proof_86 ?_
        refine sim_if_ne (tgt := 95) dX12_proof_87 (by decide) (fun c19 => ?_) (fun c19 => ?_)
        · refine sim_aload_n 0 rfl dX12_proof_95 ?_
          refine sim_aload_n 0 rfl dX12_proof_96 ?_
          refine sim_getI flX12_173 rfl rfl dX12_proof_97 ?_
          refine sim_putI fpX12_145 rfl rfl rfl rfl dX12_proof_100 ?_
          refine sim_nmH (fun g20 => ?_)
          refine sim_iconst (v := 0) (by decide) dX12_proof_103 ?_
          refine sim_istore_n (L' := [(3, .int (0 : Int32)), (0, .ref 75), (2, .int y16)]) rfl (by decide) dX12_proof_104 ?_
          refine sim_sub [1, 0] rfl ?_
          refine sX12_proof_l105 _ (0 : Int32) g20
        · refine sim_aload_n 0 rfl dX12_proof_90 ?_
          refine sim_getI flX12_195 rfl rfl dX12_proof_91 ?_
          exact sim_iret rfl rfl dX12_proof_94
    · refine sim_iconst (v := -1) (by decide) dX12_proof_19 ?_
      exact sim_iret rfl rfl dX12_proof_20
theorem okX12_proof (p1 : Int32) (h : AH) (b : Int32 × AH) (e : fX12_proof p1 h = some b) : Ok yX12_proof cX12_proof 4 (some .int) 7 [.ref 75, .int p1] h (some (.int b.1), b.2) := ok_of (sX12_proof p1 h) (by rw [e]; rfl) (by decide +kernel) (Nat.le_of_ble_eq_true rfl)
def fX12_isLine (p1 : Int32) (h : AH) : Int32 :=
  if p1 < 0 then
    (0 : Int32)
  else
    if p1 < (h.1 75 2) then
      (1 : Int32)
    else
      (0 : Int32)
theorem sX12_isLine (p1 : Int32) (h : AH) : Sim RX12 cX12_isLine 2 (some .boolean) 1 (tI h) (fX12_isLine p1 h) 0 [(0, .ref 75), (1, .int p1)] [] h := by
  unfold fX12_isLine
  refine sim_iload_n 1 rfl dX12_isLine_0 ?_
  refine sim_if_lt (tgt := 16) dX12_isLine_1 (by decide) (fun c1 => ?_) (fun c1 => ?_)
  · refine sim_iconst (v := 0) (by decide) dX12_isLine_16 ?_
    exact sim_zret rfl rfl rfl dX12_isLine_17
  · refine sim_iload_n 1 rfl dX12_isLine_4 ?_
    refine sim_aload_n 0 rfl dX12_isLine_5 ?_
    refine sim_getI flX12_145 rfl rfl dX12_isLine_6 ?_
    refine sim_icmp_ge (tgt := 16) dX12_isLine_9 (by decide) (fun c2 => ?_) (fun c2 => ?_)
    · refine sim_iconst (v := 0) (by decide) dX12_isLine_16 ?_
      exact sim_zret rfl rfl rfl dX12_isLine_17
    · refine sim_iconst (v := 1) (by decide) dX12_isLine_12 ?_
      refine sim_goto (tgt := 17) dX12_isLine_13 (by decide) ?_
      exact sim_zret rfl rfl rfl dX12_isLine_17
theorem okX12_isLine (p1 : Int32) (h : AH) : Ok yX12_isLine cX12_isLine 2 (some .boolean) 1 [.ref 75, .int p1] h (some (.int (fX12_isLine p1 h)), h) := ok_of (sX12_isLine p1 h) rfl (by decide +kernel) (Nat.le_of_ble_eq_true rfl)
def fX12_makes (p1 : Int32) (a2 : Nat) (h : AH) : Option Int32 :=
  if p1 < 0 ∨ 20 ≤ p1.toNatClampNeg then none else
  if (h.1 78 p1.toNatClampNeg) = 0 then
    if p1 < 0 ∨ 20 ≤ p1.toNatClampNeg then none else
    if (h.1 79 p1.toNatClampNeg) < 0 ∨ 10 ≤ (h.1 79 p1.toNatClampNeg).toNatClampNeg then none else
    some (h.1 76 (h.1 79 p1.toNatClampNeg).toNatClampNeg)
  else
  if (h.1 78 p1.toNatClampNeg) = 1 then
    if p1 < 0 ∨ 20 ≤ p1.toNatClampNeg then none else
    if (h.1 79 p1.toNatClampNeg) < 0 ∨ (aln a2) ≤ (h.1 79 p1.toNatClampNeg).toNatClampNeg then none else
    some (h.1 a2 (h.1 79 p1.toNatClampNeg).toNatClampNeg)
  else
  if (h.1 78 p1.toNatClampNeg) = 2 then
    if p1 < 0 ∨ 20 ≤ p1.toNatClampNeg then none else
    if (h.1 79 p1.toNatClampNeg) < 0 ∨ (aln a2) ≤ (h.1 79 p1.toNatClampNeg).toNatClampNeg then none else
    if (h.1 75 0) = 0 then none else
    some (jrem ((h.1 75 0) - (h.1 a2 (h.1 79 p1.toNatClampNeg).toNatClampNeg)) (h.1 75 0))
  else
  if (h.1 78 p1.toNatClampNeg) = 3 then
    if p1 < 0 ∨ 20 ≤ p1.toNatClampNeg then none else
    if (h.1 79 p1.toNatClampNeg) < 0 ∨ (aln a2) ≤ (h.1 79 p1.toNatClampNeg).toNatClampNeg then none else
    if p1 < 0 ∨ 20 ≤ p1.toNatClampNeg then none else
    if (h.1 80 p1.toNatClampNeg) < 0 ∨ (aln a2) ≤ (h.1 80 p1.toNatClampNeg).toNatClampNeg then none else
    if (h.1 75 0) = 0 then none else
    some (jrem ((h.1 a2 (h.1 79 p1.toNatClampNeg).toNatClampNeg) + (h.1 a2 (h.1 80 p1.toNatClampNeg).toNatClampNeg)) (h.1 75 0))
  else
  if p1 < 0 ∨ 20 ≤ p1.toNatClampNeg then none else
  if (h.1 79 p1.toNatClampNeg) < 0 ∨ (aln a2) ≤ (h.1 79 p1.toNatClampNeg).toNatClampNeg then none else
  if p1 < 0 ∨ 20 ≤ p1.toNatClampNeg then none else
  if (h.1 80 p1.toNatClampNeg) < 0 ∨ (aln a2) ≤ (h.1 80 p1.toNatClampNeg).toNatClampNeg then none else
  if (h.1 75 0) = 0 then none else
  some (jrem ((h.1 a2 (h.1 79 p1.toNatClampNeg).toNatClampNeg) * (h.1 a2 (h.1 80 p1.toNatClampNeg).toNatClampNeg)) (h.1 75 0))
theorem sX12_makes (a2 : Nat) (ia2 : isA a2) (p1 : Int32) (h : AH) : Sim RX12 cX12_makes 3 (some .int) 1 (Option.map (pI h)) (fX12_makes p1 a2 h) 0 [(0, .ref 75), (1, .int p1), (2, .ref a2)] [] h := by
  unfold fX12_makes
  refine sim_aload_n 0 rfl dX12_makes_0 ?_
  refine sim_getR flX12_16 rfl rfl dX12_makes_1 ?_
  refine sim_iload_n 1 rfl dX12_makes_4 ?_
  refine sim_nguard (fun c1 => ?_)
  refine sim_iald rfl c1 dX12_makes_5 ?_
  refine sim_case (v := 0) (tgt := 36) (0) dX12_makes_6 (by decide) (by decide) (by decide) rfl (by decide) ?_ (fun c2 => ?_)
  · refine sim_aload_n 0 rfl dX12_makes_36 ?_
    refine sim_getR flX12_7 rfl rfl dX12_makes_37 ?_
    refine sim_aload_n 0 rfl dX12_makes_40 ?_
    refine sim_getR flX12_19 rfl rfl dX12_makes_41 ?_
    refine sim_iload_n 1 rfl dX12_makes_44 ?_
    refine sim_nguard (fun c3 => ?_)
    refine sim_iald rfl c3 dX12_makes_45 ?_
    refine sim_nguard (fun c4 => ?_)
    refine sim_iald rfl c4 dX12_makes_46 ?_
    exact sim_iret rfl rfl dX12_makes_47
  refine sim_case (v := 1) (tgt := 48) (1) dX12_makes_6 (by decide) (by decide) (by decide) rfl (by decide) ?_ (fun c5 => ?_)
  · refine sim_aload_n 2 rfl dX12_makes_48 ?_
    refine sim_aload_n 0 rfl dX12_makes_49 ?_
    refine sim_getR flX12_19 rfl rfl dX12_makes_50 ?_
    refine sim_iload_n 1 rfl dX12_makes_53 ?_
    refine sim_nguard (fun c6 => ?_)
    refine sim_iald rfl c6 dX12_makes_54 ?_
    refine sim_nguard (fun c7 => ?_)
    refine sim_iald ia2 c7 dX12_makes_55 ?_
    exact sim_iret rfl rfl dX12_makes_56
  refine sim_case (v := 2) (tgt := 57) (2) dX12_makes_6 (by decide) (by decide) (by decide) rfl (by decide) ?_ (fun c8 => ?_)
  · refine sim_aload_n 0 rfl dX12_makes_57 ?_
    refine sim_getI flX12_134 rfl rfl dX12_makes_58 ?_
    refine sim_aload_n 2 rfl dX12_makes_61 ?_
    refine sim_aload_n 0 rfl dX12_makes_62 ?_
    refine sim_getR flX12_19 rfl rfl dX12_makes_63 ?_
    refine sim_iload_n 1 rfl dX12_makes_66 ?_
    refine sim_nguard (fun c9 => ?_)
    refine sim_iald rfl c9 dX12_makes_67 ?_
    refine sim_nguard (fun c10 => ?_)
    refine sim_iald ia2 c10 dX12_makes_68 ?_
    refine sim_isub dX12_makes_69 ?_
    refine sim_aload_n 0 rfl dX12_makes_70 ?_
    refine sim_getI flX12_134 rfl rfl dX12_makes_71 ?_
    refine sim_nguard (fun c11 => ?_)
    refine sim_irem c11 dX12_makes_74 ?_
    exact sim_iret rfl rfl dX12_makes_75
  refine sim_case (v := 3) (tgt := 76) (3) dX12_makes_6 (by decide) (by decide) (by decide) rfl (by decide) ?_ (fun c12 => ?_)
  · refine sim_aload_n 2 rfl dX12_makes_76 ?_
    refine sim_aload_n 0 rfl dX12_makes_77 ?_
    refine sim_getR flX12_19 rfl rfl dX12_makes_78 ?_
    refine sim_iload_n 1 rfl dX12_makes_81 ?_
    refine sim_nguard (fun c13 => ?_)
    refine sim_iald rfl c13 dX12_makes_82 ?_
    refine sim_nguard (fun c14 => ?_)
    refine sim_iald ia2 c14 dX12_makes_83 ?_
    refine sim_aload_n 2 rfl dX12_makes_84 ?_
    refine sim_aload_n 0 rfl dX12_makes_85 ?_
    refine sim_getR flX12_22 rfl rfl dX12_makes_86 ?_
    refine sim_iload_n 1 rfl dX12_makes_89 ?_
    refine sim_nguard (fun c15 => ?_)
    refine sim_iald rfl c15 dX12_makes_90 ?_
    refine sim_nguard (fun c16 => ?_)
    refine sim_iald ia2 c16 dX12_makes_91 ?_
    refine sim_iadd dX12_makes_92 ?_
    refine sim_aload_n 0 rfl dX12_makes_93 ?_
    refine sim_getI flX12_134 rfl rfl dX12_makes_94 ?_
    refine sim_nguard (fun c17 => ?_)
    refine sim_irem c17 dX12_makes_97 ?_
    exact sim_iret rfl rfl dX12_makes_98
  refine sim_dflt (tgt := 99) dX12_makes_6 (by omega) (by decide) ?_
  refine sim_aload_n 2 rfl dX12_makes_99 ?_
  refine sim_aload_n 0 rfl dX12_makes_100 ?_
  refine sim_getR flX12_19 rfl rfl dX12_makes_101 ?_
  refine sim_iload_n 1 rfl dX12_makes_104 ?_
  refine sim_nguard (fun c18 => ?_)
  refine sim_iald rfl c18 dX12_makes_105 ?_
  refine sim_nguard (fun c19 => ?_)
  refine sim_iald ia2 c19 dX12_makes_106 ?_
  refine sim_aload_n 2 rfl dX12_makes_107 ?_
  refine sim_aload_n 0 rfl dX12_makes_108 ?_
  refine sim_getR flX12_22 rfl rfl dX12_makes_109 ?_
  refine sim_iload_n 1 rfl dX12_makes_112 ?_
  refine sim_nguard (fun c20 => ?_)
  refine sim_iald rfl c20 dX12_makes_113 ?_
  refine sim_nguard (fun c21 => ?_)
  refine sim_iald ia2 c21 dX12_makes_114 ?_
  refine sim_imul dX12_makes_115 ?_
  refine sim_aload_n 0 rfl dX12_makes_116 ?_
  refine sim_getI flX12_134 rfl rfl dX12_makes_117 ?_
  refine sim_nguard (fun c22 => ?_)
  refine sim_irem c22 dX12_makes_120 ?_
  exact sim_iret rfl rfl dX12_makes_121
theorem okX12_makes (p1 : Int32) (a2 : Nat) (ia2 : isA a2) (h : AH) (b : Int32) (e : fX12_makes p1 a2 h = some b) : Ok yX12_makes cX12_makes 3 (some .int) 1 [.ref 75, .int p1, .ref a2] h (some (.int b), h) := ok_of (sX12_makes a2 ia2 p1 h) (by rw [e]; rfl) (by decide +kernel) (Nat.le_of_ble_eq_true rfl)
def fX12_laysTruth_l2b (rec : Int32 → AH → Option AH) (x1 : Int32) (h : AH) : Option AH :=
  if x1 < (h.1 75 2) then
    (fX12_makes x1 87 h).bind (fun b2 =>
    if x1 < 0 ∨ 20 ≤ x1.toNatClampNeg then none else
    letT (sI h 87 x1.toNatClampNeg b2) (fun g5 =>
    rec (x1 + 1) g5))
  else
    some h
def fX12_laysTruth_l2 : Nat → Int32 → AH → Option AH
  | 0, _, _ => none
  | n + 1, x1, h => fX12_laysTruth_l2b (fX12_laysTruth_l2 n) x1 h
theorem sX12_laysTruth_l2b {rec : Int32 → AH → Option AH} (hR : ∀ (x1 : Int32) (h : AH), Sim RX12 cX12_laysTruth 2 none 2 (Option.map oV) (rec x1 h) 2 [(0, .ref 75), (1, .int x1)] [] h) : ∀ (x1 : Int32) (h : AH), Sim RX12 cX12_laysTruth 2 none 2 (Option.map oV) (fX12_laysTruth_l2b rec x1 h) 2 [(0, .ref 75), (1, .int x1)] [] h := by
  intro x1 h
  unfold fX12_laysTruth_l2b
  refine sim_iload_n 1 rfl dX12_laysTruth_2 ?_
  refine sim_aload_n 0 rfl dX12_laysTruth_3 ?_
  refine sim_getI flX12_145 rfl rfl dX12_laysTruth_4 ?_
  refine sim_icmp_ge (tgt := 31) dX12_laysTruth_7 (by decide) (fun c1 => ?_) (fun c1 => ?_)
  · exact sim_vret rfl rfl dX12_laysTruth_31
  · refine sim_aload_n 0 rfl dX12_laysTruth_10 ?_
    refine sim_getR flX12_44 rfl rfl dX12_laysTruth_11 ?_
    refine sim_iload_n 1 rfl dX12_laysTruth_14 ?_
    refine sim_aload_n 0 rfl dX12_laysTruth_15 ?_
    refine sim_iload_n 1 rfl dX12_laysTruth_16 ?_
    refine sim_aload_n 0 rfl dX12_laysTruth_17 ?_
    refine sim_getR flX12_44 rfl rfl dX12_laysTruth_18 ?_
    refine sim_bind (fun b2 e3 => ?_)
    refine sim_cV (As := [.int x1, .ref 87]) (st := [.int x1, .ref 87]) (r := (some (.int b2))) (h1 := h) (okX12_makes x1 87 rfl h b2 e3) (fun _ => rfl) mlX12_198 mtX12_makes rfl rfl rfl rfl (Nat.le_of_ble_eq_true rfl) rfl (Nat.le_of_ble_eq_true rfl) dX12_laysTruth_21 ?_
    refine sim_nguard (fun c4 => ?_)
    refine sim_iast rfl c4 dX12_laysTruth_24 ?_
    refine sim_nmH (fun g5 => ?_)
    refine sim_iinc (v := x1 + 1) (L' := [(1, .int (x1 + 1)), (0, .ref 75)]) 1 rfl rfl rfl (by decide) dX12_laysTruth_25 ?_
    refine sim_goto (tgt := 2) dX12_laysTruth_28 (by decide) ?_
    refine sim_sub [1, 0] rfl ?_
    exact hR (x1 + 1) g5
theorem sX12_laysTruth_l2 : ∀ (n : Nat) (x1 : Int32) (h : AH), Sim RX12 cX12_laysTruth 2 none 2 (Option.map oV) (fX12_laysTruth_l2 n x1 h) 2 [(0, .ref 75), (1, .int x1)] [] h := by
  intro n
  induction n with
  | zero => intro x1 h; exact sim_none
  | succ n ih => intro x1 h; exact sX12_laysTruth_l2b ih x1 h
def fX12_laysTruth (h : AH) : Option AH :=
  fX12_laysTruth_l2 fuel0 (0 : Int32) h
theorem sX12_laysTruth (h : AH) : Sim RX12 cX12_laysTruth 2 none 2 (Option.map oV) (fX12_laysTruth h) 0 [(0, .ref 75)] [] h := by
  unfold fX12_laysTruth
  refine sim_iconst (v := 0) (by decide) dX12_laysTruth_0 ?_
  refine sim_istore_n (L' := [(1, .int (0 : Int32)), (0, .ref 75)]) rfl (by decide) dX12_laysTruth_1 ?_
  refine sim_sub [1, 0] rfl ?_
  refine sX12_laysTruth_l2 _ (0 : Int32) h
theorem okX12_laysTruth (h : AH) (b : AH) (e : fX12_laysTruth h = some b) : Ok yX12_laysTruth cX12_laysTruth 2 none 2 [.ref 75] h (none, b) := ok_of (sX12_laysTruth h) (by rw [e]; rfl) (by decide +kernel) (Nat.le_of_ble_eq_true rfl)
def fX12_max (p0 : Int32) (p1 : Int32) (h : AH) : Int32 :=
  if p1 < p0 then
    p0
  else
    p1
theorem sX12_max (p0 : Int32) (p1 : Int32) (h : AH) : Sim RX12 cX12_max 2 (some .int) 1 (tI h) (fX12_max p0 p1 h) 0 [(0, .int p0), (1, .int p1)] [] h := by
  unfold fX12_max
  refine sim_iload_n 0 rfl dX12_max_0 ?_
  refine sim_iload_n 1 rfl dX12_max_1 ?_
  refine sim_icmp_le (tgt := 9) dX12_max_2 (by decide) (fun c1 => ?_) (fun c1 => ?_)
  · refine sim_iload_n 1 rfl dX12_max_9 ?_
    exact sim_iret rfl rfl dX12_max_10
  · refine sim_iload_n 0 rfl dX12_max_5 ?_
    refine sim_goto (tgt := 10) dX12_max_6 (by decide) ?_
    exact sim_iret rfl rfl dX12_max_10
theorem okX12_max (p0 : Int32) (p1 : Int32) (h : AH) : Ok yX12_max cX12_max 2 (some .int) 1 [.int p0, .int p1] h (some (.int (fX12_max p0 p1 h)), h) := ok_of (sX12_max p0 p1 h) rfl (by decide +kernel) (Nat.le_of_ble_eq_true rfl)
def fX12_depthOf_l2b (rec : Int32 → AH → Option (Int32 × AH)) (K72 : AH → Option (Int32 × AH)) (x1 : Int32) (x2 : Int32) (h : AH) : Option (Int32 × AH) :=
  if x1 < x2 then
    K72 h
  else
    if x2 < 0 ∨ 20 ≤ x2.toNatClampNeg then none else
    if (h.1 78 x2.toNatClampNeg) = 0 then
      if x2 < 0 ∨ 20 ≤ x2.toNatClampNeg then none else
      letT (sI h 90 x2.toNatClampNeg (0 : Int32)) (fun g15 =>
      rec (x2 + 1) g15)
    else
      if x2 < 0 ∨ 20 ≤ x2.toNatClampNeg then none else
      if (h.1 79 x2.toNatClampNeg) < 0 ∨ 20 ≤ (h.1 79 x2.toNatClampNeg).toNatClampNeg then none else
      if x2 < 0 ∨ 20 ≤ x2.toNatClampNeg then none else
      if (h.1 80 x2.toNatClampNeg) < 0 then
        if x2 < 0 ∨ 20 ≤ x2.toNatClampNeg then none else
        letT (sI h 90 x2.toNatClampNeg ((1 : Int32) + (fX12_max (h.1 90 (h.1 79 x2.toNatClampNeg).toNatClampNeg) (0 : Int32) h))) (fun g13 =>
        rec (x2 + 1) g13)
      else
        if x2 < 0 ∨ 20 ≤ x2.toNatClampNeg then none else
        if (h.1 80 x2.toNatClampNeg) < 0 ∨ 20 ≤ (h.1 80 x2.toNatClampNeg).toNatClampNeg then none else
        if x2 < 0 ∨ 20 ≤ x2.toNatClampNeg then none else
        letT (sI h 90 x2.toNatClampNeg ((1 : Int32) + (fX12_max (h.1 90 (h.1 79 x2.toNatClampNeg).toNatClampNeg) (h.1 90 (h.1 80 x2.toNatClampNeg).toNatClampNeg) h))) (fun g11 =>
        rec (x2 + 1) g11)
def fX12_depthOf_l2 (K72 : AH → Option (Int32 × AH)) (x1 : Int32) : Nat → Int32 → AH → Option (Int32 × AH)
  | 0, _, _ => none
  | n + 1, x2, h => fX12_depthOf_l2b (fX12_depthOf_l2 K72 x1 n) K72 x1 x2 h
theorem sX12_depthOf_l2b {rec : Int32 → AH → Option (Int32 × AH)} {K72 : AH → Option (Int32 × AH)} {x1 : Int32} (hR : ∀ (x2 : Int32) (h : AH), Sim RX12 cX12_depthOf 3 (some .int) 2 (Option.map oI) (rec x2 h) 2 [(0, .ref 75), (1, .int x1), (2, .int x2)] [] h) (hK72 : ∀ (g : AH), Sim RX12 cX12_depthOf 3 (some .int) 2 (Option.map oI) (K72 g) 72 [(0, .ref 75), (1, .int x1)] [] g) : ∀ (x2 : Int32) (h : AH), Sim RX12 cX12_depthOf 3 (some .int) 2 (Option.map oI) (fX12_depthOf_l2b rec K72 x1 x2 h) 2 [(0, .ref 75), (1, .int x1), (2, .int x2)] [] h := by
  intro x2 h
  unfold fX12_depthOf_l2b
  refine sim_iload_n 2 rfl dX12_depthOf_2 ?_
  refine sim_iload_n 1 rfl dX12_depthOf_3 ?_
  refine sim_icmp_gt (tgt := 72) dX12_depthOf_4 (by decide) (fun c1 => ?_) (fun c1 => ?_)
  · refine sim_sub [0, 1] rfl ?_
    exact hK72 h
  · refine sim_aload_n 0 rfl dX12_depthOf_7 ?_
    refine sim_getR flX12_53 rfl rfl dX12_depthOf_8 ?_
    refine sim_iload_n 2 rfl dX12_depthOf_11 ?_
    refine sim_aload_n 0 rfl dX12_depthOf_12 ?_
    refine sim_getR flX12_16 rfl rfl dX12_depthOf_13 ?_
    refine sim_iload_n 2 rfl dX12_depthOf_16 ?_
    refine sim_nguard (fun c2 => ?_)
    refine sim_iald rfl c2 dX12_depthOf_17 ?_
    refine sim_if_ne (tgt := 25) dX12_depthOf_18 (by decide) (fun c3 => ?_) (fun c3 => ?_)
    · refine sim_iconst (v := 1) (by decide) dX12_depthOf_25 ?_
      refine sim_aload_n 0 rfl dX12_depthOf_26 ?_
      refine sim_getR flX12_53 rfl rfl dX12_depthOf_27 ?_
      refine sim_aload_n 0 rfl dX12_depthOf_30 ?_
      refine sim_getR flX12_19 rfl rfl dX12_depthOf_31 ?_
      refine sim_iload_n 2 rfl dX12_depthOf_34 ?_
      refine sim_nguard (fun c4 => ?_)
      refine sim_iald rfl c4 dX12_depthOf_35 ?_
      refine sim_nguard (fun c5 => ?_)
      refine sim_iald rfl c5 dX12_depthOf_36 ?_
      refine sim_aload_n 0 rfl dX12_depthOf_37 ?_
      refine sim_getR flX12_22 rfl rfl dX12_depthOf_38 ?_
      refine sim_iload_n 2 rfl dX12_depthOf_41 ?_
      refine sim_nguard (fun c6 => ?_)
      refine sim_iald rfl c6 dX12_depthOf_42 ?_
      refine sim_if_ge (tgt := 50) dX12_depthOf_43 (by decide) (fun c7 => ?_) (fun c7 => ?_)
      · refine sim_aload_n 0 rfl dX12_depthOf_50 ?_
        refine sim_getR flX12_53 rfl rfl dX12_depthOf_51 ?_
        refine sim_aload_n 0 rfl dX12_depthOf_54 ?_
        refine sim_getR flX12_22 rfl rfl dX12_depthOf_55 ?_
        refine sim_iload_n 2 rfl dX12_depthOf_58 ?_
        refine sim_nguard (fun c8 => ?_)
        refine sim_iald rfl c8 dX12_depthOf_59 ?_
        refine sim_nguard (fun c9 => ?_)
        refine sim_iald rfl c9 dX12_depthOf_60 ?_
        refine sim_cS (As := [.int (h.1 90 (h.1 79 x2.toNatClampNeg).toNatClampNeg), .int (h.1 90 (h.1 80 x2.toNatClampNeg).toNatClampNeg)]) (st := [.int (1 : Int32), .int x2, .ref 90]) (r := (some (.int (fX12_max (h.1 90 (h.1 79 x2.toNatClampNeg).toNatClampNeg) (h.1 90 (h.1 80 x2.toNatClampNeg).toNatClampNeg) h)))) (h1 := h) (okX12_max (h.1 90 (h.1 79 x2.toNatClampNeg).toNatClampNeg) (h.1 90 (h.1 80 x2.toNatClampNeg).toNatClampNeg) h) (fun _ => rfl) mlX12_202 mtX12_max rfl (Nat.le_of_ble_eq_true rfl) rfl (Nat.le_of_ble_eq_true rfl) dX12_depthOf_61 ?_
        refine sim_iadd dX12_depthOf_64 ?_
        refine sim_nguard (fun c10 => ?_)
        refine sim_iast rfl c10 dX12_depthOf_65 ?_
        refine sim_nmH (fun g11 => ?_)
        refine sim_iinc (v := x2 + 1) (L' := [(2, .int (x2 + 1)), (0, .ref 75), (1, .int x1)]) 2 rfl rfl rfl (by decide) dX12_depthOf_66 ?_
        refine sim_goto (tgt := 2) dX12_depthOf_69 (by decide) ?_
        refine sim_sub [1, 2, 0] rfl ?_
        exact hR (x2 + 1) g11
      · refine sim_iconst (v := 0) (by decide) dX12_depthOf_46 ?_
        refine sim_goto (tgt := 61) dX12_depthOf_47 (by decide) ?_
        refine sim_cS (As := [.int (h.1 90 (h.1 79 x2.toNatClampNeg).toNatClampNeg), .int (0 : Int32)]) (st := [.int (1 : Int32), .int x2, .ref 90]) (r := (some (.int (fX12_max (h.1 90 (h.1 79 x2.toNatClampNeg).toNatClampNeg) (0 : Int32) h)))) (h1 := h) (okX12_max (h.1 90 (h.1 79 x2.toNatClampNeg).toNatClampNeg) (0 : Int32) h) (fun _ => rfl) mlX12_202 mtX12_max rfl (Nat.le_of_ble_eq_true rfl) rfl (Nat.le_of_ble_eq_true rfl) dX12_depthOf_61 ?_
        refine sim_iadd dX12_depthOf_64 ?_
        refine sim_nguard (fun c12 => ?_)
        refine sim_iast rfl c12 dX12_depthOf_65 ?_
        refine sim_nmH (fun g13 => ?_)
        refine sim_iinc (v := x2 + 1) (L' := [(2, .int (x2 + 1)), (0, .ref 75), (1, .int x1)]) 2 rfl rfl rfl (by decide) dX12_depthOf_66 ?_
        refine sim_goto (tgt := 2) dX12_depthOf_69 (by decide) ?_
        refine sim_sub [1, 2, 0] rfl ?_
        exact hR (x2 + 1) g13
    · refine sim_iconst (v := 0) (by decide) dX12_depthOf_21 ?_
      refine sim_goto (tgt := 65) dX12_depthOf_22 (by decide) ?_
      refine sim_nguard (fun c14 => ?_)
      refine sim_iast rfl c14 dX12_depthOf_65 ?_
      refine sim_nmH (fun g15 => ?_)
      refine sim_iinc (v := x2 + 1) (L' := [(2, .int (x2 + 1)), (0, .ref 75), (1, .int x1)]) 2 rfl rfl rfl (by decide) dX12_depthOf_66 ?_
      refine sim_goto (tgt := 2) dX12_depthOf_69 (by decide) ?_
      refine sim_sub [1, 2, 0] rfl ?_
      exact hR (x2 + 1) g15
theorem sX12_depthOf_l2 {K72 : AH → Option (Int32 × AH)} {x1 : Int32} (hK72 : ∀ (g : AH), Sim RX12 cX12_depthOf 3 (some .int) 2 (Option.map oI) (K72 g) 72 [(0, .ref 75), (1, .int x1)] [] g) : ∀ (n : Nat) (x2 : Int32) (h : AH), Sim RX12 cX12_depthOf 3 (some .int) 2 (Option.map oI) (fX12_depthOf_l2 K72 x1 n x2 h) 2 [(0, .ref 75), (1, .int x1), (2, .int x2)] [] h := by
  intro n
  induction n with
  | zero => intro x2 h; exact sim_none
  | succ n ih => intro x2 h; exact sX12_depthOf_l2b ih hK72 x2 h
def fX12_depthOf (p1 : Int32) (h : AH) : Option (Int32 × AH) :=
  fX12_depthOf_l2 (fun (g16 : AH) =>
    if p1 < 0 ∨ 20 ≤ p1.toNatClampNeg then none else
    some (g16.1 90 p1.toNatClampNeg, g16)) p1 fuel0 (0 : Int32) h
theorem sX12_depthOf (p1 : Int32) (h : AH) : Sim RX12 cX12_depthOf 3 (some .int) 2 (Option.map oI) (fX12_depthOf p1 h) 0 [(0, .ref 75), (1, .int p1)] [] h := by
  unfold fX12_depthOf
  refine sim_iconst (v := 0) (by decide) dX12_depthOf_0 ?_
  refine sim_istore_n (L' := [(2, .int (0 : Int32)), (0, .ref 75), (1, .int p1)]) rfl (by decide) dX12_depthOf_1 ?_
  refine sim_sub [1, 2, 0] rfl ?_
  refine sX12_depthOf_l2 (fun g16 => ?_) _ (0 : Int32) h
  · refine sim_aload_n 0 rfl dX12_depthOf_72 ?_
    refine sim_getR flX12_53 rfl rfl dX12_depthOf_73 ?_
    refine sim_iload_n 1 rfl dX12_depthOf_76 ?_
    refine sim_nguard (fun c17 => ?_)
    refine sim_iald rfl c17 dX12_depthOf_77 ?_
    exact sim_iret rfl rfl dX12_depthOf_78
theorem okX12_depthOf (p1 : Int32) (h : AH) (b : Int32 × AH) (e : fX12_depthOf p1 h = some b) : Ok yX12_depthOf cX12_depthOf 3 (some .int) 2 [.ref 75, .int p1] h (some (.int b.1), b.2) := ok_of (sX12_depthOf p1 h) (by rw [e]; rfl) (by decide +kernel) (Nat.le_of_ble_eq_true rfl)
def fX12_hasIt (p1 : Int32) (p2 : Int32) (h : AH) : Option Int32 :=
  if p1 < 0 ∨ 20 ≤ p1.toNatClampNeg then none else
  if (h.1 78 p1.toNatClampNeg) = 0 then
    if p1 < 0 ∨ 20 ≤ p1.toNatClampNeg then none else
    if (h.1 80 p1.toNatClampNeg) = p2 then
      some (1 : Int32)
    else
      some (0 : Int32)
  else
    if p1 < 0 ∨ 20 ≤ p1.toNatClampNeg then none else
    if (h.1 79 p1.toNatClampNeg) = p2 then
      some (1 : Int32)
    else
      if p1 < 0 ∨ 20 ≤ p1.toNatClampNeg then none else
      if (h.1 80 p1.toNatClampNeg) = p2 then
        some (1 : Int32)
      else
        some (0 : Int32)
theorem sX12_hasIt (p1 : Int32) (p2 : Int32) (h : AH) : Sim RX12 cX12_hasIt 3 (some .boolean) 1 (Option.map (pI h)) (fX12_hasIt p1 p2 h) 0 [(0, .ref 75), (1, .int p1), (2, .int p2)] [] h := by
  unfold fX12_hasIt
  refine sim_aload_n 0 rfl dX12_hasIt_0 ?_
  refine sim_getR flX12_16 rfl rfl dX12_hasIt_1 ?_
  refine sim_iload_n 1 rfl dX12_hasIt_4 ?_
  refine sim_nguard (fun c1 => ?_)
  refine sim_iald rfl c1 dX12_hasIt_5 ?_
  refine sim_if_eq (tgt := 19) dX12_hasIt_6 (by decide) (fun c2 => ?_) (fun c2 => ?_)
  · refine sim_aload_n 0 rfl dX12_hasIt_19 ?_
    refine sim_getR flX12_22 rfl rfl dX12_hasIt_20 ?_
    refine sim_iload_n 1 rfl dX12_hasIt_23 ?_
    refine sim_nguard (fun c3 => ?_)
    refine sim_iald rfl c3 dX12_hasIt_24 ?_
    refine sim_iload_n 2 rfl dX12_hasIt_25 ?_
    refine sim_icmp_ne (tgt := 33) dX12_hasIt_26 (by decide) (fun c4 => ?_) (fun c4 => ?_)
    · refine sim_iconst (v := 0) (by decide) dX12_hasIt_33 ?_
      exact sim_zret rfl rfl rfl dX12_hasIt_34
    · refine sim_iconst (v := 1) (by decide) dX12_hasIt_29 ?_
      refine sim_goto (tgt := 34) dX12_hasIt_30 (by decide) ?_
      exact sim_zret rfl rfl rfl dX12_hasIt_34
  · refine sim_aload_n 0 rfl dX12_hasIt_9 ?_
    refine sim_getR flX12_19 rfl rfl dX12_hasIt_10 ?_
    refine sim_iload_n 1 rfl dX12_hasIt_13 ?_
    refine sim_nguard (fun c5 => ?_)
    refine sim_iald rfl c5 dX12_hasIt_14 ?_
    refine sim_iload_n 2 rfl dX12_hasIt_15 ?_
    refine sim_icmp_eq (tgt := 29) dX12_hasIt_16 (by decide) (fun c6 => ?_) (fun c6 => ?_)
    · refine sim_iconst (v := 1) (by decide) dX12_hasIt_29 ?_
      refine sim_goto (tgt := 34) dX12_hasIt_30 (by decide) ?_
      exact sim_zret rfl rfl rfl dX12_hasIt_34
    · refine sim_aload_n 0 rfl dX12_hasIt_19 ?_
      refine sim_getR flX12_22 rfl rfl dX12_hasIt_20 ?_
      refine sim_iload_n 1 rfl dX12_hasIt_23 ?_
      refine sim_nguard (fun c7 => ?_)
      refine sim_iald rfl c7 dX12_hasIt_24 ?_
      refine sim_iload_n 2 rfl dX12_hasIt_25 ?_
      refine sim_icmp_ne (tgt := 33) dX12_hasIt_26 (by decide) (fun c8 => ?_) (fun c8 => ?_)
      · refine sim_iconst (v := 0) (by decide) dX12_hasIt_33 ?_
        exact sim_zret rfl rfl rfl dX12_hasIt_34
      · refine sim_iconst (v := 1) (by decide) dX12_hasIt_29 ?_
        refine sim_goto (tgt := 34) dX12_hasIt_30 (by decide) ?_
        exact sim_zret rfl rfl rfl dX12_hasIt_34
theorem okX12_hasIt (p1 : Int32) (p2 : Int32) (h : AH) (b : Int32) (e : fX12_hasIt p1 p2 h = some b) : Ok yX12_hasIt cX12_hasIt 3 (some .boolean) 1 [.ref 75, .int p1, .int p2] h (some (.int b), h) := ok_of (sX12_hasIt p1 p2 h) (by rw [e]; rfl) (by decide +kernel) (Nat.le_of_ble_eq_true rfl)
def fX12_usedBy_l4b (rec : Int32 → Int32 → Option Int32) (x1 : Int32) (h : AH) (x2 : Int32) (x3 : Int32) : Option Int32 :=
  if x3 < (h.1 75 2) then
    (fX12_hasIt x3 x1 h).bind (fun b2 =>
    if b2 = 0 then
      letT (x2 + (0 : Int32)) (fun v5 =>
      rec v5 (x3 + 1))
    else
      letT (x2 + (1 : Int32)) (fun v6 =>
      rec v6 (x3 + 1)))
  else
    some x2
def fX12_usedBy_l4 (x1 : Int32) (h : AH) : Nat → Int32 → Int32 → Option Int32
  | 0, _, _ => none
  | n + 1, x2, x3 => fX12_usedBy_l4b (fX12_usedBy_l4 x1 h n) x1 h x2 x3
theorem sX12_usedBy_l4b {rec : Int32 → Int32 → Option Int32} {x1 : Int32} {h : AH} (hR : ∀ (x2 : Int32) (x3 : Int32), Sim RX12 cX12_usedBy 4 (some .int) 2 (Option.map (pI h)) (rec x2 x3) 4 [(0, .ref 75), (1, .int x1), (2, .int x2), (3, .int x3)] [] h) : ∀ (x2 : Int32) (x3 : Int32), Sim RX12 cX12_usedBy 4 (some .int) 2 (Option.map (pI h)) (fX12_usedBy_l4b rec x1 h x2 x3) 4 [(0, .ref 75), (1, .int x1), (2, .int x2), (3, .int x3)] [] h := by
  intro x2 x3
  unfold fX12_usedBy_l4b
  refine sim_iload_n 3 rfl dX12_usedBy_4 ?_
  refine sim_aload_n 0 rfl dX12_usedBy_5 ?_
  refine sim_getI flX12_145 rfl rfl dX12_usedBy_6 ?_
  refine sim_icmp_ge (tgt := 35) dX12_usedBy_9 (by decide) (fun c1 => ?_) (fun c1 => ?_)
  · refine sim_iload_n 2 rfl dX12_usedBy_35 ?_
    exact sim_iret rfl rfl dX12_usedBy_36
  · refine sim_iload_n 2 rfl dX12_usedBy_12 ?_
    refine sim_aload_n 0 rfl dX12_usedBy_13 ?_
    refine sim_iload_n 3 rfl dX12_usedBy_14 ?_
    refine sim_iload_n 1 rfl dX12_usedBy_15 ?_
    refine sim_bind (fun b2 e3 => ?_)
    refine sim_cV (As := [.int x3, .int x1]) (st := [.int x2]) (r := (some (.int b2))) (h1 := h) (okX12_hasIt x3 x1 h b2 e3) (fun _ => rfl) mlX12_206 mtX12_hasIt rfl rfl rfl rfl (Nat.le_of_ble_eq_true rfl) rfl (Nat.le_of_ble_eq_true rfl) dX12_usedBy_16 ?_
    refine sim_if_eq (tgt := 26) dX12_usedBy_19 (by decide) (fun c4 => ?_) (fun c4 => ?_)
    · refine sim_iconst (v := 0) (by decide) dX12_usedBy_26 ?_
      refine sim_iadd dX12_usedBy_27 ?_
      refine sim_nmI (fun v5 => ?_)
      refine sim_istore_n (L' := [(2, .int v5), (0, .ref 75), (1, .int x1), (3, .int x3)]) rfl (by decide) dX12_usedBy_28 ?_
      refine sim_iinc (v := x3 + 1) (L' := [(3, .int (x3 + 1)), (2, .int v5), (0, .ref 75), (1, .int x1)]) 3 rfl rfl rfl (by decide) dX12_usedBy_29 ?_
      refine sim_goto (tgt := 4) dX12_usedBy_32 (by decide) ?_
      refine sim_sub [2, 3, 1, 0] rfl ?_
      exact hR v5 (x3 + 1)
    · refine sim_iconst (v := 1) (by decide) dX12_usedBy_22 ?_
      refine sim_goto (tgt := 27) dX12_usedBy_23 (by decide) ?_
      refine sim_iadd dX12_usedBy_27 ?_
      refine sim_nmI (fun v6 => ?_)
      refine sim_istore_n (L' := [(2, .int v6), (0, .ref 75), (1, .int x1), (3, .int x3)]) rfl (by decide) dX12_usedBy_28 ?_
      refine sim_iinc (v := x3 + 1) (L' := [(3, .int (x3 + 1)), (2, .int v6), (0, .ref 75), (1, .int x1)]) 3 rfl rfl rfl (by decide) dX12_usedBy_29 ?_
      refine sim_goto (tgt := 4) dX12_usedBy_32 (by decide) ?_
      refine sim_sub [2, 3, 1, 0] rfl ?_
      exact hR v6 (x3 + 1)
theorem sX12_usedBy_l4 {x1 : Int32} {h : AH} : ∀ (n : Nat) (x2 : Int32) (x3 : Int32), Sim RX12 cX12_usedBy 4 (some .int) 2 (Option.map (pI h)) (fX12_usedBy_l4 x1 h n x2 x3) 4 [(0, .ref 75), (1, .int x1), (2, .int x2), (3, .int x3)] [] h := by
  intro n
  induction n with
  | zero => intro x2 x3; exact sim_none
  | succ n ih => intro x2 x3; exact sX12_usedBy_l4b ih x2 x3
def fX12_usedBy (p1 : Int32) (h : AH) : Option Int32 :=
  fX12_usedBy_l4 p1 h fuel0 (0 : Int32) (0 : Int32)
theorem sX12_usedBy (p1 : Int32) (h : AH) : Sim RX12 cX12_usedBy 4 (some .int) 2 (Option.map (pI h)) (fX12_usedBy p1 h) 0 [(0, .ref 75), (1, .int p1)] [] h := by
  unfold fX12_usedBy
  refine sim_iconst (v := 0) (by decide) dX12_usedBy_0 ?_
  refine sim_istore_n (L' := [(2, .int (0 : Int32)), (0, .ref 75), (1, .int p1)]) rfl (by decide) dX12_usedBy_1 ?_
  refine sim_iconst (v := 0) (by decide) dX12_usedBy_2 ?_
  refine sim_istore_n (L' := [(3, .int (0 : Int32)), (2, .int (0 : Int32)), (0, .ref 75), (1, .int p1)]) rfl (by decide) dX12_usedBy_3 ?_
  refine sim_sub [2, 3, 1, 0] rfl ?_
  refine sX12_usedBy_l4 _ (0 : Int32) (0 : Int32)
theorem okX12_usedBy (p1 : Int32) (h : AH) (b : Int32) (e : fX12_usedBy p1 h = some b) : Ok yX12_usedBy cX12_usedBy 4 (some .int) 2 [.ref 75, .int p1] h (some (.int b), h) := ok_of (sX12_usedBy p1 h) (by rw [e]; rfl) (by decide +kernel) (Nat.le_of_ble_eq_true rfl)
def fX12_isWrong (p1 : Int32) (h : AH) : Option Int32 :=
  if p1 < 0 ∨ 20 ≤ p1.toNatClampNeg then none else
  (fX12_makes p1 77 h).bind (fun b2 =>
  if (h.1 77 p1.toNatClampNeg) = b2 then
    some (0 : Int32)
  else
    some (1 : Int32))
theorem sX12_isWrong (p1 : Int32) (h : AH) : Sim RX12 cX12_isWrong 2 (some .boolean) 2 (Option.map (pI h)) (fX12_isWrong p1 h) 0 [(0, .ref 75), (1, .int p1)] [] h := by
  unfold fX12_isWrong
  refine sim_aload_n 0 rfl dX12_isWrong_0 ?_
  refine sim_getR flX12_13 rfl rfl dX12_isWrong_1 ?_
  refine sim_iload_n 1 rfl dX12_isWrong_4 ?_
  refine sim_nguard (fun c1 => ?_)
  refine sim_iald rfl c1 dX12_isWrong_5 ?_
  refine sim_aload_n 0 rfl dX12_isWrong_6 ?_
  refine sim_iload_n 1 rfl dX12_isWrong_7 ?_
  refine sim_aload_n 0 rfl dX12_isWrong_8 ?_
  refine sim_getR flX12_13 rfl rfl dX12_isWrong_9 ?_
  refine sim_bind (fun b2 e3 => ?_)
  refine sim_cV (As := [.int p1, .ref 77]) (st := [.int (h.1 77 p1.toNatClampNeg)]) (r := (some (.int b2))) (h1 := h) (okX12_makes p1 77 rfl h b2 e3) (fun _ => rfl) mlX12_198 mtX12_makes rfl rfl rfl rfl (Nat.le_of_ble_eq_true rfl) rfl (Nat.le_of_ble_eq_true rfl) dX12_isWrong_12 ?_
  refine sim_icmp_eq (tgt := 22) dX12_isWrong_15 (by decide) (fun c4 => ?_) (fun c4 => ?_)
  · refine sim_iconst (v := 0) (by decide) dX12_isWrong_22 ?_
    exact sim_zret rfl rfl rfl dX12_isWrong_23
  · refine sim_iconst (v := 1) (by decide) dX12_isWrong_18 ?_
    refine sim_goto (tgt := 23) dX12_isWrong_19 (by decide) ?_
    exact sim_zret rfl rfl rfl dX12_isWrong_23
theorem okX12_isWrong (p1 : Int32) (h : AH) (b : Int32) (e : fX12_isWrong p1 h = some b) : Ok yX12_isWrong cX12_isWrong 2 (some .boolean) 2 [.ref 75, .int p1] h (some (.int b), h) := ok_of (sX12_isWrong p1 h) (by rw [e]; rfl) (by decide +kernel) (Nat.le_of_ble_eq_true rfl)
def fX12_line (p1 : Int32) (p2 : Int32) (h : AH) : Option (Int32 × AH) :=
  if (fX12_isLine p1 h) = 0 then
    some ((-1 : Int32), h)
  else
    (fX12_laysTruth h).bind (fun b2 =>
    if p2 = 0 then
      if p1 < 0 ∨ 20 ≤ p1.toNatClampNeg then none else
      some (b2.1 77 p1.toNatClampNeg, b2)
    else
    if p2 = 1 then
      if p1 < 0 ∨ 20 ≤ p1.toNatClampNeg then none else
      some (b2.1 78 p1.toNatClampNeg, b2)
    else
    if p2 = 2 then
      if p1 < 0 ∨ 20 ≤ p1.toNatClampNeg then none else
      some (b2.1 79 p1.toNatClampNeg, b2)
    else
    if p2 = 3 then
      if p1 < 0 ∨ 20 ≤ p1.toNatClampNeg then none else
      some (b2.1 80 p1.toNatClampNeg, b2)
    else
    if p2 = 4 then
      if p1 < 0 ∨ 20 ≤ p1.toNatClampNeg then none else
      some (b2.1 87 p1.toNatClampNeg, b2)
    else
    if p2 = 5 then
      (fX12_makes p1 77 b2).bind (fun b15 =>
      some (b15, b2))
    else
    if p2 = 6 then
      (fX12_depthOf p1 b2).bind (fun b18 =>
      some (b18.1, b18.2))
    else
    if p2 = 7 then
      (fX12_usedBy p1 b2).bind (fun b21 =>
      some (b21, b2))
    else
    if p2 = 8 then
      (fX12_isWrong p1 b2).bind (fun b24 =>
      if b24 = 0 then
        some ((0 : Int32), b2)
      else
        some ((1 : Int32), b2))
    else
    some ((-1 : Int32), b2))
theorem sX12_line (p1 : Int32) (p2 : Int32) (h : AH) : Sim RX12 cX12_line 3 (some .int) 3 (Option.map oI) (fX12_line p1 p2 h) 0 [(0, .ref 75), (1, .int p1), (2, .int p2)] [] h := by
  unfold fX12_line
  refine sim_aload_n 0 rfl dX12_line_0 ?_
  refine sim_iload_n 1 rfl dX12_line_1 ?_
  refine sim_cV (As := [.int p1]) (st := []) (r := (some (.int (fX12_isLine p1 h)))) (h1 := h) (okX12_isLine p1 h) (fun _ => rfl) mlX12_209 mtX12_isLine rfl rfl rfl rfl (Nat.le_of_ble_eq_true rfl) rfl (Nat.le_of_ble_eq_true rfl) dX12_line_2 ?_
  refine sim_if_ne (tgt := 10) dX12_line_5 (by decide) (fun c1 => ?_) (fun c1 => ?_)
  · refine sim_aload_n 0 rfl dX12_line_10 ?_
    refine sim_bind (fun b2 e3 => ?_)
    refine sim_cV (As := []) (st := []) (r := none) (h1 := b2) (okX12_laysTruth h b2 e3) (fun _ => rfl) mlX12_212 mtX12_laysTruth rfl rfl rfl rfl (Nat.le_of_ble_eq_true rfl) rfl (Nat.le_of_ble_eq_true rfl) dX12_line_11 ?_
    refine sim_iload_n 2 rfl dX12_line_14 ?_
    refine sim_case (v := 0) (tgt := 64) (0) dX12_line_15 (by decide) (by decide) (by decide) rfl (by decide) ?_ (fun c4 => ?_)
    · refine sim_aload_n 0 rfl dX12_line_64 ?_
      refine sim_getR flX12_13 rfl rfl dX12_line_65 ?_
      refine sim_iload_n 1 rfl dX12_line_68 ?_
      refine sim_nguard (fun c5 => ?_)
      refine sim_iald rfl c5 dX12_line_69 ?_
      exact sim_iret rfl rfl dX12_line_70
    refine sim_case (v := 1) (tgt := 71) (1) dX12_line_15 (by decide) (by decide) (by decide) rfl (by decide) ?_ (fun c6 => ?_)
    · refine sim_aload_n 0 rfl dX12_line_71 ?_
      refine sim_getR flX12_16 rfl rfl dX12_line_72 ?_
      refine sim_iload_n 1 rfl dX12_line_75 ?_
      refine sim_nguard (fun c7 => ?_)
      refine sim_iald rfl c7 dX12_line_76 ?_
      exact sim_iret rfl rfl dX12_line_77
    refine sim_case (v := 2) (tgt := 78) (2) dX12_line_15 (by decide) (by decide) (by decide) rfl (by decide) ?_ (fun c8 => ?_)
    · refine sim_aload_n 0 rfl dX12_line_78 ?_
      refine sim_getR flX12_19 rfl rfl dX12_line_79 ?_
      refine sim_iload_n 1 rfl dX12_line_82 ?_
      refine sim_nguard (fun c9 => ?_)
      refine sim_iald rfl c9 dX12_line_83 ?_
      exact sim_iret rfl rfl dX12_line_84
    refine sim_case (v := 3) (tgt := 85) (3) dX12_line_15 (by decide) (by decide) (by decide) rfl (by decide) ?_ (fun c10 => ?_)
    · refine sim_aload_n 0 rfl dX12_line_85 ?_
      refine sim_getR flX12_22 rfl rfl dX12_line_86 ?_
      refine sim_iload_n 1 rfl dX12_line_89 ?_
      refine sim_nguard (fun c11 => ?_)
      refine sim_iald rfl c11 dX12_line_90 ?_
      exact sim_iret rfl rfl dX12_line_91
    refine sim_case (v := 4) (tgt := 92) (4) dX12_line_15 (by decide) (by decide) (by decide) rfl (by decide) ?_ (fun c12 => ?_)
    · refine sim_aload_n 0 rfl dX12_line_92 ?_
      refine sim_getR flX12_44 rfl rfl dX12_line_93 ?_
      refine sim_iload_n 1 rfl dX12_line_96 ?_
      refine sim_nguard (fun c13 => ?_)
      refine sim_iald rfl c13 dX12_line_97 ?_
      exact sim_iret rfl rfl dX12_line_98
    refine sim_case (v := 5) (tgt := 99) (5) dX12_line_15 (by decide) (by decide) (by decide) rfl (by decide) ?_ (fun c14 => ?_)
    · refine sim_aload_n 0 rfl dX12_line_99 ?_
      refine sim_iload_n 1 rfl dX12_line_100 ?_
      refine sim_aload_n 0 rfl dX12_line_101 ?_
      refine sim_getR flX12_13 rfl rfl dX12_line_102 ?_
      refine sim_bind (fun b15 e16 => ?_)
      refine sim_cV (As := [.int p1, .ref 77]) (st := []) (r := (some (.int b15))) (h1 := b2) (okX12_makes p1 77 rfl b2 b15 e16) (fun _ => rfl) mlX12_198 mtX12_makes rfl rfl rfl rfl (Nat.le_of_ble_eq_true rfl) rfl (Nat.le_of_ble_eq_true rfl) dX12_line_105 ?_
      exact sim_iret rfl rfl dX12_line_108
    refine sim_case (v := 6) (tgt := 109) (6) dX12_line_15 (by decide) (by decide) (by decide) rfl (by decide) ?_ (fun c17 => ?_)
    · refine sim_aload_n 0 rfl dX12_line_109 ?_
      refine sim_iload_n 1 rfl dX12_line_110 ?_
      refine sim_bind (fun b18 e19 => ?_)
      refine sim_cV (As := [.int p1]) (st := []) (r := (some (.int b18.1))) (h1 := b18.2) (okX12_depthOf p1 b2 b18 e19) (fun _ => rfl) mlX12_215 mtX12_depthOf rfl rfl rfl rfl (Nat.le_of_ble_eq_true rfl) rfl (Nat.le_of_ble_eq_true rfl) dX12_line_111 ?_
      exact sim_iret rfl rfl dX12_line_114
    refine sim_case (v := 7) (tgt := 115) (7) dX12_line_15 (by decide) (by decide) (by decide) rfl (by decide) ?_ (fun c20 => ?_)
    · refine sim_aload_n 0 rfl dX12_line_115 ?_
      refine sim_iload_n 1 rfl dX12_line_116 ?_
      refine sim_bind (fun b21 e22 => ?_)
      refine sim_cV (As := [.int p1]) (st := []) (r := (some (.int b21))) (h1 := b2) (okX12_usedBy p1 b2 b21 e22) (fun _ => rfl) mlX12_219 mtX12_usedBy rfl rfl rfl rfl (Nat.le_of_ble_eq_true rfl) rfl (Nat.le_of_ble_eq_true rfl) dX12_line_117 ?_
      exact sim_iret rfl rfl dX12_line_120
    refine sim_case (v := 8) (tgt := 121) (8) dX12_line_15 (by decide) (by decide) (by decide) rfl (by decide) ?_ (fun c23 => ?_)
    · refine sim_aload_n 0 rfl dX12_line_121 ?_
      refine sim_iload_n 1 rfl dX12_line_122 ?_
      refine sim_bind (fun b24 e25 => ?_)
      refine sim_cV (As := [.int p1]) (st := []) (r := (some (.int b24))) (h1 := b2) (okX12_isWrong p1 b2 b24 e25) (fun _ => rfl) mlX12_222 mtX12_isWrong rfl rfl rfl rfl (Nat.le_of_ble_eq_true rfl) rfl (Nat.le_of_ble_eq_true rfl) dX12_line_123 ?_
      refine sim_if_eq (tgt := 133) dX12_line_126 (by decide) (fun c26 => ?_) (fun c26 => ?_)
      · refine sim_iconst (v := 0) (by decide) dX12_line_133 ?_
        exact sim_iret rfl rfl dX12_line_134
      · refine sim_iconst (v := 1) (by decide) dX12_line_129 ?_
        refine sim_goto (tgt := 134) dX12_line_130 (by decide) ?_
        exact sim_iret rfl rfl dX12_line_134
    refine sim_dflt (tgt := 135) dX12_line_15 (by omega) (by decide) ?_
    refine sim_iconst (v := -1) (by decide) dX12_line_135 ?_
    exact sim_iret rfl rfl dX12_line_136
  · refine sim_iconst (v := -1) (by decide) dX12_line_8 ?_
    exact sim_iret rfl rfl dX12_line_9
theorem okX12_line (p1 : Int32) (p2 : Int32) (h : AH) (b : Int32 × AH) (e : fX12_line p1 p2 h = some b) : Ok yX12_line cX12_line 3 (some .int) 3 [.ref 75, .int p1, .int p2] h (some (.int b.1), b.2) := ok_of (sX12_line p1 p2 h) (by rw [e]; rfl) (by decide +kernel) (Nat.le_of_ble_eq_true rfl)
def fX12_wrong_l4b (rec : Int32 → Int32 → Option Int32) (h : AH) (x1 : Int32) (x2 : Int32) : Option Int32 :=
  if x2 < (h.1 75 2) then
    (fX12_isWrong x2 h).bind (fun b2 =>
    if b2 = 0 then
      rec x1 (x2 + 1)
    else
      letT (x1 ||| (jshl (1 : Int32) x2)) (fun v5 =>
      rec v5 (x2 + 1)))
  else
    some x1
def fX12_wrong_l4 (h : AH) : Nat → Int32 → Int32 → Option Int32
  | 0, _, _ => none
  | n + 1, x1, x2 => fX12_wrong_l4b (fX12_wrong_l4 h n) h x1 x2
theorem sX12_wrong_l4b {rec : Int32 → Int32 → Option Int32} {h : AH} (hR : ∀ (x1 : Int32) (x2 : Int32), Sim RX12 cX12_wrong 3 (some .int) 3 (Option.map (pI h)) (rec x1 x2) 4 [(0, .ref 75), (1, .int x1), (2, .int x2)] [] h) : ∀ (x1 : Int32) (x2 : Int32), Sim RX12 cX12_wrong 3 (some .int) 3 (Option.map (pI h)) (fX12_wrong_l4b rec h x1 x2) 4 [(0, .ref 75), (1, .int x1), (2, .int x2)] [] h := by
  intro x1 x2
  unfold fX12_wrong_l4b
  refine sim_iload_n 2 rfl dX12_wrong_4 ?_
  refine sim_aload_n 0 rfl dX12_wrong_5 ?_
  refine sim_getI flX12_145 rfl rfl dX12_wrong_6 ?_
  refine sim_icmp_ge (tgt := 32) dX12_wrong_9 (by decide) (fun c1 => ?_) (fun c1 => ?_)
  · refine sim_iload_n 1 rfl dX12_wrong_32 ?_
    exact sim_iret rfl rfl dX12_wrong_33
  · refine sim_aload_n 0 rfl dX12_wrong_12 ?_
    refine sim_iload_n 2 rfl dX12_wrong_13 ?_
    refine sim_bind (fun b2 e3 => ?_)
    refine sim_cV (As := [.int x2]) (st := []) (r := (some (.int b2))) (h1 := h) (okX12_isWrong x2 h b2 e3) (fun _ => rfl) mlX12_222 mtX12_isWrong rfl rfl rfl rfl (Nat.le_of_ble_eq_true rfl) rfl (Nat.le_of_ble_eq_true rfl) dX12_wrong_14 ?_
    refine sim_if_eq (tgt := 26) dX12_wrong_17 (by decide) (fun c4 => ?_) (fun c4 => ?_)
    · refine sim_iinc (v := x2 + 1) (L' := [(2, .int (x2 + 1)), (0, .ref 75), (1, .int x1)]) 2 rfl rfl rfl (by decide) dX12_wrong_26 ?_
      refine sim_goto (tgt := 4) dX12_wrong_29 (by decide) ?_
      refine sim_sub [1, 2, 0] rfl ?_
      exact hR x1 (x2 + 1)
    · refine sim_iload_n 1 rfl dX12_wrong_20 ?_
      refine sim_iconst (v := 1) (by decide) dX12_wrong_21 ?_
      refine sim_iload_n 2 rfl dX12_wrong_22 ?_
      refine sim_ishl dX12_wrong_23 ?_
      refine sim_ior dX12_wrong_24 ?_
      refine sim_nmI (fun v5 => ?_)
      refine sim_istore_n (L' := [(1, .int v5), (0, .ref 75), (2, .int x2)]) rfl (by decide) dX12_wrong_25 ?_
      refine sim_iinc (v := x2 + 1) (L' := [(2, .int (x2 + 1)), (1, .int v5), (0, .ref 75)]) 2 rfl rfl rfl (by decide) dX12_wrong_26 ?_
      refine sim_goto (tgt := 4) dX12_wrong_29 (by decide) ?_
      refine sim_sub [2, 1, 0] rfl ?_
      exact hR v5 (x2 + 1)
theorem sX12_wrong_l4 {h : AH} : ∀ (n : Nat) (x1 : Int32) (x2 : Int32), Sim RX12 cX12_wrong 3 (some .int) 3 (Option.map (pI h)) (fX12_wrong_l4 h n x1 x2) 4 [(0, .ref 75), (1, .int x1), (2, .int x2)] [] h := by
  intro n
  induction n with
  | zero => intro x1 x2; exact sim_none
  | succ n ih => intro x1 x2; exact sX12_wrong_l4b ih x1 x2
def fX12_wrong (h : AH) : Option Int32 :=
  fX12_wrong_l4 h fuel0 (0 : Int32) (0 : Int32)
theorem sX12_wrong (h : AH) : Sim RX12 cX12_wrong 3 (some .int) 3 (Option.map (pI h)) (fX12_wrong h) 0 [(0, .ref 75)] [] h := by
  unfold fX12_wrong
  refine sim_iconst (v := 0) (by decide) dX12_wrong_0 ?_
  refine sim_istore_n (L' := [(1, .int (0 : Int32)), (0, .ref 75)]) rfl (by decide) dX12_wrong_1 ?_
  refine sim_iconst (v := 0) (by decide) dX12_wrong_2 ?_
  refine sim_istore_n (L' := [(2, .int (0 : Int32)), (1, .int (0 : Int32)), (0, .ref 75)]) rfl (by decide) dX12_wrong_3 ?_
  refine sim_sub [2, 1, 0] rfl ?_
  refine sX12_wrong_l4 _ (0 : Int32) (0 : Int32)
theorem okX12_wrong (h : AH) (b : Int32) (e : fX12_wrong h = some b) : Ok yX12_wrong cX12_wrong 3 (some .int) 3 [.ref 75] h (some (.int b), h) := ok_of (sX12_wrong h) (by rw [e]; rfl) (by decide +kernel) (Nat.le_of_ble_eq_true rfl)
def fX12_untrue_l8b (rec : Int32 → Int32 → Option (Int32 × AH)) (h : AH) (x1 : Int32) (x2 : Int32) : Option (Int32 × AH) :=
  if x2 < (h.1 75 2) then
    if x2 < 0 ∨ 20 ≤ x2.toNatClampNeg then none else
    if x2 < 0 ∨ 20 ≤ x2.toNatClampNeg then none else
    if (h.1 77 x2.toNatClampNeg) = (h.1 87 x2.toNatClampNeg) then
      rec x1 (x2 + 1)
    else
      letT (x1 ||| (jshl (1 : Int32) x2)) (fun v7 =>
      rec v7 (x2 + 1))
  else
    some (x1, h)
def fX12_untrue_l8 (h : AH) : Nat → Int32 → Int32 → Option (Int32 × AH)
  | 0, _, _ => none
  | n + 1, x1, x2 => fX12_untrue_l8b (fX12_untrue_l8 h n) h x1 x2
theorem sX12_untrue_l8b {rec : Int32 → Int32 → Option (Int32 × AH)} {h : AH} (hR : ∀ (x1 : Int32) (x2 : Int32), Sim RX12 cX12_untrue 3 (some .int) 3 (Option.map oI) (rec x1 x2) 8 [(0, .ref 75), (1, .int x1), (2, .int x2)] [] h) : ∀ (x1 : Int32) (x2 : Int32), Sim RX12 cX12_untrue 3 (some .int) 3 (Option.map oI) (fX12_untrue_l8b rec h x1 x2) 8 [(0, .ref 75), (1, .int x1), (2, .int x2)] [] h := by
  intro x1 x2
  unfold fX12_untrue_l8b
  refine sim_iload_n 2 rfl dX12_untrue_8 ?_
  refine sim_aload_n 0 rfl dX12_untrue_9 ?_
  refine sim_getI flX12_145 rfl rfl dX12_untrue_10 ?_
  refine sim_icmp_ge (tgt := 43) dX12_untrue_13 (by decide) (fun c3 => ?_) (fun c3 => ?_)
  · refine sim_iload_n 1 rfl dX12_untrue_43 ?_
    exact sim_iret rfl rfl dX12_untrue_44
  · refine sim_aload_n 0 rfl dX12_untrue_16 ?_
    refine sim_getR flX12_13 rfl rfl dX12_untrue_17 ?_
    refine sim_iload_n 2 rfl dX12_untrue_20 ?_
    refine sim_nguard (fun c4 => ?_)
    refine sim_iald rfl c4 dX12_untrue_21 ?_
    refine sim_aload_n 0 rfl dX12_untrue_22 ?_
    refine sim_getR flX12_44 rfl rfl dX12_untrue_23 ?_
    refine sim_iload_n 2 rfl dX12_untrue_26 ?_
    refine sim_nguard (fun c5 => ?_)
    refine sim_iald rfl c5 dX12_untrue_27 ?_
    refine sim_icmp_eq (tgt := 37) dX12_untrue_28 (by decide) (fun c6 => ?_) (fun c6 => ?_)
    · refine sim_iinc (v := x2 + 1) (L' := [(2, .int (x2 + 1)), (0, .ref 75), (1, .int x1)]) 2 rfl rfl rfl (by decide) dX12_untrue_37 ?_
      refine sim_goto (tgt := 8) dX12_untrue_40 (by decide) ?_
      refine sim_sub [1, 2, 0] rfl ?_
      exact hR x1 (x2 + 1)
    · refine sim_iload_n 1 rfl dX12_untrue_31 ?_
      refine sim_iconst (v := 1) (by decide) dX12_untrue_32 ?_
      refine sim_iload_n 2 rfl dX12_untrue_33 ?_
      refine sim_ishl dX12_untrue_34 ?_
      refine sim_ior dX12_untrue_35 ?_
      refine sim_nmI (fun v7 => ?_)
      refine sim_istore_n (L' := [(1, .int v7), (0, .ref 75), (2, .int x2)]) rfl (by decide) dX12_untrue_36 ?_
      refine sim_iinc (v := x2 + 1) (L' := [(2, .int (x2 + 1)), (1, .int v7), (0, .ref 75)]) 2 rfl rfl rfl (by decide) dX12_untrue_37 ?_
      refine sim_goto (tgt := 8) dX12_untrue_40 (by decide) ?_
      refine sim_sub [2, 1, 0] rfl ?_
      exact hR v7 (x2 + 1)
theorem sX12_untrue_l8 {h : AH} : ∀ (n : Nat) (x1 : Int32) (x2 : Int32), Sim RX12 cX12_untrue 3 (some .int) 3 (Option.map oI) (fX12_untrue_l8 h n x1 x2) 8 [(0, .ref 75), (1, .int x1), (2, .int x2)] [] h := by
  intro n
  induction n with
  | zero => intro x1 x2; exact sim_none
  | succ n ih => intro x1 x2; exact sX12_untrue_l8b ih x1 x2
def fX12_untrue (h : AH) : Option (Int32 × AH) :=
  (fX12_laysTruth h).bind (fun b1 =>
  fX12_untrue_l8 b1 fuel0 (0 : Int32) (0 : Int32))
theorem sX12_untrue (h : AH) : Sim RX12 cX12_untrue 3 (some .int) 3 (Option.map oI) (fX12_untrue h) 0 [(0, .ref 75)] [] h := by
  unfold fX12_untrue
  refine sim_aload_n 0 rfl dX12_untrue_0 ?_
  refine sim_bind (fun b1 e2 => ?_)
  refine sim_cV (As := []) (st := []) (r := none) (h1 := b1) (okX12_laysTruth h b1 e2) (fun _ => rfl) mlX12_212 mtX12_laysTruth rfl rfl rfl rfl (Nat.le_of_ble_eq_true rfl) rfl (Nat.le_of_ble_eq_true rfl) dX12_untrue_1 ?_
  refine sim_iconst (v := 0) (by decide) dX12_untrue_4 ?_
  refine sim_istore_n (L' := [(1, .int (0 : Int32)), (0, .ref 75)]) rfl (by decide) dX12_untrue_5 ?_
  refine sim_iconst (v := 0) (by decide) dX12_untrue_6 ?_
  refine sim_istore_n (L' := [(2, .int (0 : Int32)), (1, .int (0 : Int32)), (0, .ref 75)]) rfl (by decide) dX12_untrue_7 ?_
  refine sim_sub [2, 1, 0] rfl ?_
  refine sX12_untrue_l8 _ (0 : Int32) (0 : Int32)
theorem okX12_untrue (h : AH) (b : Int32 × AH) (e : fX12_untrue h = some b) : Ok yX12_untrue cX12_untrue 3 (some .int) 3 [.ref 75] h (some (.int b.1), b.2) := ok_of (sX12_untrue h) (by rw [e]; rfl) (by decide +kernel) (Nat.le_of_ble_eq_true rfl)
def fX12_isClaim (p1 : Int32) (h : AH) : Int32 :=
  if p1 < 0 then
    (0 : Int32)
  else
    if p1 < (h.1 75 0) then
      (1 : Int32)
    else
      (0 : Int32)
theorem sX12_isClaim (p1 : Int32) (h : AH) : Sim RX12 cX12_isClaim 2 (some .boolean) 1 (tI h) (fX12_isClaim p1 h) 0 [(0, .ref 75), (1, .int p1)] [] h := by
  unfold fX12_isClaim
  refine sim_iload_n 1 rfl dX12_isClaim_0 ?_
  refine sim_if_lt (tgt := 16) dX12_isClaim_1 (by decide) (fun c1 => ?_) (fun c1 => ?_)
  · refine sim_iconst (v := 0) (by decide) dX12_isClaim_16 ?_
    exact sim_zret rfl rfl rfl dX12_isClaim_17
  · refine sim_iload_n 1 rfl dX12_isClaim_4 ?_
    refine sim_aload_n 0 rfl dX12_isClaim_5 ?_
    refine sim_getI flX12_134 rfl rfl dX12_isClaim_6 ?_
    refine sim_icmp_ge (tgt := 16) dX12_isClaim_9 (by decide) (fun c2 => ?_) (fun c2 => ?_)
    · refine sim_iconst (v := 0) (by decide) dX12_isClaim_16 ?_
      exact sim_zret rfl rfl rfl dX12_isClaim_17
    · refine sim_iconst (v := 1) (by decide) dX12_isClaim_12 ?_
      refine sim_goto (tgt := 17) dX12_isClaim_13 (by decide) ?_
      exact sim_zret rfl rfl rfl dX12_isClaim_17
theorem okX12_isClaim (p1 : Int32) (h : AH) : Ok yX12_isClaim cX12_isClaim 2 (some .boolean) 1 [.ref 75, .int p1] h (some (.int (fX12_isClaim p1 h)), h) := ok_of (sX12_isClaim p1 h) rfl (by decide +kernel) (Nat.le_of_ble_eq_true rfl)
def fX12_slips_l3b (a1 : Nat) (a2 : Nat) (rec : Int32 → AH → Option AH) (x3 : Int32) (x4 : Int32) (x5 : Int32) (h : AH) : Option AH :=
  if x5 < (h.1 75 2) then
    if x5 < x3 then
      if x5 < 0 ∨ (aln a1) ≤ x5.toNatClampNeg then none else
      if x5 < 0 ∨ (aln a2) ≤ x5.toNatClampNeg then none else
      letT (sI h a2 x5.toNatClampNeg (h.1 a1 x5.toNatClampNeg)) (fun g12 =>
      rec (x5 + 1) g12)
    else
      if x5 = x3 then
        if x5 < 0 ∨ (aln a2) ≤ x5.toNatClampNeg then none else
        letT (sI h a2 x5.toNatClampNeg x4) (fun g9 =>
        rec (x5 + 1) g9)
      else
        (fX12_makes x5 a2 h).bind (fun b4 =>
        if x5 < 0 ∨ (aln a2) ≤ x5.toNatClampNeg then none else
        letT (sI h a2 x5.toNatClampNeg b4) (fun g7 =>
        rec (x5 + 1) g7))
  else
    some h
def fX12_slips_l3 (a1 : Nat) (a2 : Nat) (x3 : Int32) (x4 : Int32) : Nat → Int32 → AH → Option AH
  | 0, _, _ => none
  | n + 1, x5, h => fX12_slips_l3b a1 a2 (fX12_slips_l3 a1 a2 x3 x4 n) x3 x4 x5 h
theorem sX12_slips_l3b (a1 : Nat) (a2 : Nat) (ia1 : isA a1) (ia2 : isA a2) {rec : Int32 → AH → Option AH} {x3 : Int32} {x4 : Int32} (hR : ∀ (x5 : Int32) (h : AH), Sim RX12 cX12_slips 6 none 2 (Option.map oV) (rec x5 h) 3 [(0, .ref 75), (1, .ref a1), (2, .ref a2), (3, .int x3), (4, .int x4), (5, .int x5)] [] h) : ∀ (x5 : Int32) (h : AH), Sim RX12 cX12_slips 6 none 2 (Option.map oV) (fX12_slips_l3b a1 a2 rec x3 x4 x5 h) 3 [(0, .ref 75), (1, .ref a1), (2, .ref a2), (3, .int x3), (4, .int x4), (5, .int x5)] [] h := by
  intro x5 h
  unfold fX12_slips_l3b
  refine sim_iload 5 rfl dX12_slips_3 ?_
  refine sim_aload_n 0 rfl dX12_slips_5 ?_
  refine sim_getI flX12_145 rfl rfl dX12_slips_6 ?_
  refine sim_icmp_ge (tgt := 53) dX12_slips_9 (by decide) (fun c1 => ?_) (fun c1 => ?_)
  · exact sim_vret rfl rfl dX12_slips_53
  · refine sim_aload_n 2 rfl dX12_slips_12 ?_
    refine sim_iload 5 rfl dX12_slips_13 ?_
    refine sim_iload 5 rfl dX12_slips_15 ?_
    refine sim_iload_n 3 rfl dX12_slips_17 ?_
    refine sim_icmp_ge (tgt := 28) dX12_slips_18 (by decide) (fun c2 => ?_) (fun c2 => ?_)
    · refine sim_iload 5 rfl dX12_slips_28 ?_
      refine sim_iload_n 3 rfl dX12_slips_30 ?_
      refine sim_icmp_ne (tgt := 39) dX12_slips_31 (by decide) (fun c3 => ?_) (fun c3 => ?_)
      · refine sim_aload_n 0 rfl dX12_slips_39 ?_
        refine sim_iload 5 rfl dX12_slips_40 ?_
        refine sim_aload_n 2 rfl dX12_slips_42 ?_
        refine sim_bind (fun b4 e5 => ?_)
        refine sim_cV (As := [.int x5, .ref a2]) (st := [.int x5, .ref a2]) (r := (some (.int b4))) (h1 := h) (okX12_makes x5 a2 ia2 h b4 e5) (fun _ => rfl) mlX12_198 mtX12_makes rfl rfl rfl rfl (Nat.le_of_ble_eq_true rfl) rfl (Nat.le_of_ble_eq_true rfl) dX12_slips_43 ?_
        refine sim_nguard (fun c6 => ?_)
        refine sim_iast ia2 c6 dX12_slips_46 ?_
        refine sim_nmH (fun g7 => ?_)
        refine sim_iinc (v := x5 + 1) (L' := [(5, .int (x5 + 1)), (0, .ref 75), (1, .ref a1), (2, .ref a2), (3, .int x3), (4, .int x4)]) 5 rfl rfl rfl (by decide) dX12_slips_47 ?_
        refine sim_goto (tgt := 3) dX12_slips_50 (by decide) ?_
        refine sim_sub [1, 2, 3, 4, 5, 0] rfl ?_
        exact hR (x5 + 1) g7
      · refine sim_iload 4 rfl dX12_slips_34 ?_
        refine sim_goto (tgt := 46) dX12_slips_36 (by decide) ?_
        refine sim_nguard (fun c8 => ?_)
        refine sim_iast ia2 c8 dX12_slips_46 ?_
        refine sim_nmH (fun g9 => ?_)
        refine sim_iinc (v := x5 + 1) (L' := [(5, .int (x5 + 1)), (0, .ref 75), (1, .ref a1), (2, .ref a2), (3, .int x3), (4, .int x4)]) 5 rfl rfl rfl (by decide) dX12_slips_47 ?_
        refine sim_goto (tgt := 3) dX12_slips_50 (by decide) ?_
        refine sim_sub [1, 2, 3, 4, 5, 0] rfl ?_
        exact hR (x5 + 1) g9
    · refine sim_aload_n 1 rfl dX12_slips_21 ?_
      refine sim_iload 5 rfl dX12_slips_22 ?_
      refine sim_nguard (fun c10 => ?_)
      refine sim_iald ia1 c10 dX12_slips_24 ?_
      refine sim_goto (tgt := 46) dX12_slips_25 (by decide) ?_
      refine sim_nguard (fun c11 => ?_)
      refine sim_iast ia2 c11 dX12_slips_46 ?_
      refine sim_nmH (fun g12 => ?_)
      refine sim_iinc (v := x5 + 1) (L' := [(5, .int (x5 + 1)), (0, .ref 75), (1, .ref a1), (2, .ref a2), (3, .int x3), (4, .int x4)]) 5 rfl rfl rfl (by decide) dX12_slips_47 ?_
      refine sim_goto (tgt := 3) dX12_slips_50 (by decide) ?_
      refine sim_sub [1, 2, 3, 4, 5, 0] rfl ?_
      exact hR (x5 + 1) g12
theorem sX12_slips_l3 (a1 : Nat) (a2 : Nat) (ia1 : isA a1) (ia2 : isA a2) {x3 : Int32} {x4 : Int32} : ∀ (n : Nat) (x5 : Int32) (h : AH), Sim RX12 cX12_slips 6 none 2 (Option.map oV) (fX12_slips_l3 a1 a2 x3 x4 n x5 h) 3 [(0, .ref 75), (1, .ref a1), (2, .ref a2), (3, .int x3), (4, .int x4), (5, .int x5)] [] h := by
  intro n
  induction n with
  | zero => intro x5 h; exact sim_none
  | succ n ih => intro x5 h; exact sX12_slips_l3b a1 a2 ia1 ia2 ih x5 h
def fX12_slips (a1 : Nat) (a2 : Nat) (p3 : Int32) (p4 : Int32) (h : AH) : Option AH :=
  fX12_slips_l3 a1 a2 p3 p4 fuel0 (0 : Int32) h
theorem sX12_slips (a1 : Nat) (a2 : Nat) (ia1 : isA a1) (ia2 : isA a2) (p3 : Int32) (p4 : Int32) (h : AH) : Sim RX12 cX12_slips 6 none 2 (Option.map oV) (fX12_slips a1 a2 p3 p4 h) 0 [(0, .ref 75), (1, .ref a1), (2, .ref a2), (3, .int p3), (4, .int p4)] [] h := by
  unfold fX12_slips
  refine sim_iconst (v := 0) (by decide) dX12_slips_0 ?_
  refine sim_istore (L' := [(5, .int (0 : Int32)), (0, .ref 75), (1, .ref a1), (2, .ref a2), (3, .int p3), (4, .int p4)]) rfl (by decide) dX12_slips_1 ?_
  refine sim_sub [1, 2, 3, 4, 5, 0] rfl ?_
  refine sX12_slips_l3 a1 a2 ia1 ia2 _ (0 : Int32) h
theorem okX12_slips (a1 : Nat) (ia1 : isA a1) (a2 : Nat) (ia2 : isA a2) (p3 : Int32) (p4 : Int32) (h : AH) (b : AH) (e : fX12_slips a1 a2 p3 p4 h = some b) : Ok yX12_slips cX12_slips 6 none 2 [.ref 75, .ref a1, .ref a2, .int p3, .int p4] h (none, b) := ok_of (sX12_slips a1 a2 ia1 ia2 p3 p4 h) (by rw [e]; rfl) (by decide +kernel) (Nat.le_of_ble_eq_true rfl)
def fX12_slip (p1 : Int32) (p2 : Int32) (h : AH) : Option (Int32 × AH) :=
  if (fX12_isLine p1 h) = 0 then
    some ((-1 : Int32), h)
  else
    if (fX12_isClaim p2 h) = 0 then
      some ((-1 : Int32), h)
    else
      (fX12_slips 77 88 p1 p2 h).bind (fun b3 =>
      if ((b3.1 75 2) - (1 : Int32)) < 0 ∨ 20 ≤ ((b3.1 75 2) - (1 : Int32)).toNatClampNeg then none else
      some (b3.1 88 ((b3.1 75 2) - (1 : Int32)).toNatClampNeg, b3))
theorem sX12_slip (p1 : Int32) (p2 : Int32) (h : AH) : Sim RX12 cX12_slip 3 (some .int) 3 (Option.map oI) (fX12_slip p1 p2 h) 0 [(0, .ref 75), (1, .int p1), (2, .int p2)] [] h := by
  unfold fX12_slip
  refine sim_aload_n 0 rfl dX12_slip_0 ?_
  refine sim_iload_n 1 rfl dX12_slip_1 ?_
  refine sim_cV (As := [.int p1]) (st := []) (r := (some (.int (fX12_isLine p1 h)))) (h1 := h) (okX12_isLine p1 h) (fun _ => rfl) mlX12_209 mtX12_isLine rfl rfl rfl rfl (Nat.le_of_ble_eq_true rfl) rfl (Nat.le_of_ble_eq_true rfl) dX12_slip_2 ?_
  refine sim_if_eq (tgt := 16) dX12_slip_5 (by decide) (fun c1 => ?_) (fun c1 => ?_)
  · refine sim_iconst (v := -1) (by decide) dX12_slip_16 ?_
    exact sim_iret rfl rfl dX12_slip_17
  · refine sim_aload_n 0 rfl dX12_slip_8 ?_
    refine sim_iload_n 2 rfl dX12_slip_9 ?_
    refine sim_cV (As := [.int p2]) (st := []) (r := (some (.int (fX12_isClaim p2 h)))) (h1 := h) (okX12_isClaim p2 h) (fun _ => rfl) mlX12_225 mtX12_isClaim rfl rfl rfl rfl (Nat.le_of_ble_eq_true rfl) rfl (Nat.le_of_ble_eq_true rfl) dX12_slip_10 ?_
    refine sim_if_ne (tgt := 18) dX12_slip_13 (by decide) (fun c2 => ?_) (fun c2 => ?_)
    · refine sim_aload_n 0 rfl dX12_slip_18 ?_
      refine sim_aload_n 0 rfl dX12_slip_19 ?_
      refine sim_getR flX12_13 rfl rfl dX12_slip_20 ?_
      refine sim_aload_n 0 rfl dX12_slip_23 ?_
      refine sim_getR flX12_47 rfl rfl dX12_slip_24 ?_
      refine sim_iload_n 1 rfl dX12_slip_27 ?_
      refine sim_iload_n 2 rfl dX12_slip_28 ?_
      refine sim_bind (fun b3 e4 => ?_)
      refine sim_cV (As := [.ref 77, .ref 88, .int p1, .int p2]) (st := []) (r := none) (h1 := b3) (okX12_slips 77 rfl 88 rfl p1 p2 h b3 e4) (fun _ => rfl) mlX12_228 mtX12_slips rfl rfl rfl rfl (Nat.le_of_ble_eq_true rfl) rfl (Nat.le_of_ble_eq_true rfl) dX12_slip_29 ?_
      refine sim_aload_n 0 rfl dX12_slip_32 ?_
      refine sim_getR flX12_47 rfl rfl dX12_slip_33 ?_
      refine sim_aload_n 0 rfl dX12_slip_36 ?_
      refine sim_getI flX12_145 rfl rfl dX12_slip_37 ?_
      refine sim_iconst (v := 1) (by decide) dX12_slip_40 ?_
      refine sim_isub dX12_slip_41 ?_
      refine sim_nguard (fun c5 => ?_)
      refine sim_iald rfl c5 dX12_slip_42 ?_
      exact sim_iret rfl rfl dX12_slip_43
    · refine sim_iconst (v := -1) (by decide) dX12_slip_16 ?_
      exact sim_iret rfl rfl dX12_slip_17
theorem okX12_slip (p1 : Int32) (p2 : Int32) (h : AH) (b : Int32 × AH) (e : fX12_slip p1 p2 h = some b) : Ok yX12_slip cX12_slip 3 (some .int) 3 [.ref 75, .int p1, .int p2] h (some (.int b.1), b.2) := ok_of (sX12_slip p1 p2 h) (by rw [e]; rfl) (by decide +kernel) (Nat.le_of_ble_eq_true rfl)
def fX12_honest_l8b (rec : Int32 → Int32 → AH → Option (Int32 × AH)) (x1 : Int32) (x2 : Int32) (h : AH) : Option (Int32 × AH) :=
  if x2 < (h.1 75 2) then
    if x2 < 0 ∨ 20 ≤ x2.toNatClampNeg then none else
    if x2 < 0 ∨ 20 ≤ x2.toNatClampNeg then none else
    if (h.1 77 x2.toNatClampNeg) = (h.1 87 x2.toNatClampNeg) then
      letT (x1 + (0 : Int32)) (fun v11 =>
      if x2 < 0 ∨ 20 ≤ x2.toNatClampNeg then none else
      if x2 < 0 ∨ 20 ≤ x2.toNatClampNeg then none else
      letT (sI h 77 x2.toNatClampNeg (h.1 87 x2.toNatClampNeg)) (fun g14 =>
      rec v11 (x2 + 1) g14))
    else
      letT (x1 + (1 : Int32)) (fun v7 =>
      if x2 < 0 ∨ 20 ≤ x2.toNatClampNeg then none else
      if x2 < 0 ∨ 20 ≤ x2.toNatClampNeg then none else
      letT (sI h 77 x2.toNatClampNeg (h.1 87 x2.toNatClampNeg)) (fun g10 =>
      rec v7 (x2 + 1) g10))
  else
    some (x1, h)
def fX12_honest_l8 : Nat → Int32 → Int32 → AH → Option (Int32 × AH)
  | 0, _, _, _ => none
  | n + 1, x1, x2, h => fX12_honest_l8b (fX12_honest_l8 n) x1 x2 h
theorem sX12_honest_l8b {rec : Int32 → Int32 → AH → Option (Int32 × AH)} (hR : ∀ (x1 : Int32) (x2 : Int32) (h : AH), Sim RX12 cX12_honest 3 (some .int) 3 (Option.map oI) (rec x1 x2 h) 8 [(0, .ref 75), (1, .int x1), (2, .int x2)] [] h) : ∀ (x1 : Int32) (x2 : Int32) (h : AH), Sim RX12 cX12_honest 3 (some .int) 3 (Option.map oI) (fX12_honest_l8b rec x1 x2 h) 8 [(0, .ref 75), (1, .int x1), (2, .int x2)] [] h := by
  intro x1 x2 h
  unfold fX12_honest_l8b
  refine sim_iload_n 2 rfl dX12_honest_8 ?_
  refine sim_aload_n 0 rfl dX12_honest_9 ?_
  refine sim_getI flX12_145 rfl rfl dX12_honest_10 ?_
  refine sim_icmp_ge (tgt := 57) dX12_honest_13 (by decide) (fun c3 => ?_) (fun c3 => ?_)
  · refine sim_iload_n 1 rfl dX12_honest_57 ?_
    exact sim_iret rfl rfl dX12_honest_58
  · refine sim_iload_n 1 rfl dX12_honest_16 ?_
    refine sim_aload_n 0 rfl dX12_honest_17 ?_
    refine sim_getR flX12_13 rfl rfl dX12_honest_18 ?_
    refine sim_iload_n 2 rfl dX12_honest_21 ?_
    refine sim_nguard (fun c4 => ?_)
    refine sim_iald rfl c4 dX12_honest_22 ?_
    refine sim_aload_n 0 rfl dX12_honest_23 ?_
    refine sim_getR flX12_44 rfl rfl dX12_honest_24 ?_
    refine sim_iload_n 2 rfl dX12_honest_27 ?_
    refine sim_nguard (fun c5 => ?_)
    refine sim_iald rfl c5 dX12_honest_28 ?_
    refine sim_icmp_ne (tgt := 36) dX12_honest_29 (by decide) (fun c6 => ?_) (fun c6 => ?_)
    · refine sim_iconst (v := 1) (by decide) dX12_honest_36 ?_
      refine sim_iadd dX12_honest_37 ?_
      refine sim_nmI (fun v7 => ?_)
      refine sim_istore_n (L' := [(1, .int v7), (0, .ref 75), (2, .int x2)]) rfl (by decide) dX12_honest_38 ?_
      refine sim_aload_n 1 rfl dX12_honest_39 ?_
      refine sim_getR flX12_13 rfl rfl dX12_honest_40 ?_
      refine sim_iload_n 2 rfl dX12_honest_43 ?_
      refine sim_aload_n 1 rfl dX12_honest_44 ?_
      refine sim_getR flX12_44 rfl rfl dX12_honest_45 ?_
      refine sim_iload_n 2 rfl dX12_honest_48 ?_
      refine sim_nguard (fun c8 => ?_)
      refine sim_iald rfl c8 dX12_honest_49 ?_
      refine sim_nguard (fun c9 => ?_)
      refine sim_iast rfl c9 dX12_honest_50 ?_
      refine sim_nmH (fun g10 => ?_)
      refine sim_iinc (v := x2 + 1) (L' := [(2, .int (x2 + 1)), (1, .int v7), (0, .ref 75)]) 2 rfl rfl rfl (by decide) dX12_honest_51 ?_
      refine sim_goto (tgt := 8) dX12_honest_54 (by decide) ?_
      refine sim_sub [2, 1, 0] rfl ?_
      exact hR v7 (x2 + 1) g10
    · refine sim_iconst (v := 0) (by decide) dX12_honest_32 ?_
      refine sim_goto (tgt := 37) dX12_honest_33 (by decide) ?_
      refine sim_iadd dX12_honest_37 ?_
      refine sim_nmI (fun v11 => ?_)
      refine sim_istore_n (L' := [(1, .int v11), (0, .ref 75), (2, .int x2)]) rfl (by decide) dX12_honest_38 ?_
      refine sim_aload_n 1 rfl dX12_honest_39 ?_
      refine sim_getR flX12_13 rfl rfl dX12_honest_40 ?_
      refine sim_iload_n 2 rfl dX12_honest_43 ?_
      refine sim_aload_n 1 rfl dX12_honest_44 ?_
      refine sim_getR flX12_44 rfl rfl dX12_honest_45 ?_
      refine sim_iload_n 2 rfl dX12_honest_48 ?_
      refine sim_nguard (fun c12 => ?_)
      refine sim_iald rfl c12 dX12_honest_49 ?_
      refine sim_nguard (fun c13 => ?_)
      refine sim_iast rfl c13 dX12_honest_50 ?_
      refine sim_nmH (fun g14 => ?_)
      refine sim_iinc (v := x2 + 1) (L' := [(2, .int (x2 + 1)), (1, .int v11), (0, .ref 75)]) 2 rfl rfl rfl (by decide) dX12_honest_51 ?_
      refine sim_goto (tgt := 8) dX12_honest_54 (by decide) ?_
      refine sim_sub [2, 1, 0] rfl ?_
      exact hR v11 (x2 + 1) g14
theorem sX12_honest_l8 : ∀ (n : Nat) (x1 : Int32) (x2 : Int32) (h : AH), Sim RX12 cX12_honest 3 (some .int) 3 (Option.map oI) (fX12_honest_l8 n x1 x2 h) 8 [(0, .ref 75), (1, .int x1), (2, .int x2)] [] h := by
  intro n
  induction n with
  | zero => intro x1 x2 h; exact sim_none
  | succ n ih => intro x1 x2 h; exact sX12_honest_l8b ih x1 x2 h
def fX12_honest (h : AH) : Option (Int32 × AH) :=
  (fX12_laysTruth h).bind (fun b1 =>
  fX12_honest_l8 fuel0 (0 : Int32) (0 : Int32) b1)
theorem sX12_honest (h : AH) : Sim RX12 cX12_honest 3 (some .int) 3 (Option.map oI) (fX12_honest h) 0 [(0, .ref 75)] [] h := by
  unfold fX12_honest
  refine sim_aload_n 0 rfl dX12_honest_0 ?_
  refine sim_bind (fun b1 e2 => ?_)
  refine sim_cV (As := []) (st := []) (r := none) (h1 := b1) (okX12_laysTruth h b1 e2) (fun _ => rfl) mlX12_212 mtX12_laysTruth rfl rfl rfl rfl (Nat.le_of_ble_eq_true rfl) rfl (Nat.le_of_ble_eq_true rfl) dX12_honest_1 ?_
  refine sim_iconst (v := 0) (by decide) dX12_honest_4 ?_
  refine sim_istore_n (L' := [(1, .int (0 : Int32)), (0, .ref 75)]) rfl (by decide) dX12_honest_5 ?_
  refine sim_iconst (v := 0) (by decide) dX12_honest_6 ?_
  refine sim_istore_n (L' := [(2, .int (0 : Int32)), (1, .int (0 : Int32)), (0, .ref 75)]) rfl (by decide) dX12_honest_7 ?_
  refine sim_sub [2, 1, 0] rfl ?_
  refine sX12_honest_l8 _ (0 : Int32) (0 : Int32) b1
theorem okX12_honest (h : AH) (b : Int32 × AH) (e : fX12_honest h = some b) : Ok yX12_honest cX12_honest 3 (some .int) 3 [.ref 75] h (some (.int b.1), b.2) := ok_of (sX12_honest h) (by rw [e]; rfl) (by decide +kernel) (Nat.le_of_ble_eq_true rfl)
end
