noncomputable section
def fX6_clear (h : AH) : AH :=
  letT (sI h 6 0 (0 : Int32)) (fun g1 =>
  g1)
theorem sX6_clear (h : AH) : Sim RX6 cX6_clear 1 none 1 (tV) (fX6_clear h) 0 [(0, .ref 6)] [] h := by
  unfold fX6_clear
  refine sim_aload_n 0 rfl dX6_clear_0 ?_
  refine sim_iconst (v := 0) (by decide) dX6_clear_1 ?_
  refine sim_putI fpX6_9 rfl rfl rfl rfl dX6_clear_2 ?_
  refine sim_nmH (fun g1 => ?_)
  exact sim_vret rfl rfl dX6_clear_5
theorem okX6_clear (h : AH) : Ok yX6_clear cX6_clear 1 none 1 [.ref 6] h (none, fX6_clear h) := ok_of (sX6_clear h) rfl (by decide +kernel) (Nat.le_of_ble_eq_true rfl)
def fX11_at (a0 : Nat) (p1 : Int32) (h : AH) : Int32 :=
  if p1 < 0 then
    (0 : Int32)
  else
    if p1 < (Int32.ofNat (aln a0)) then
      h.1 a0 p1.toNatClampNeg
    else
      (0 : Int32)
theorem sX11_at (a0 : Nat) (ia0 : isA a0) (p1 : Int32) (h : AH) : Sim RX11 cX11_at 2 (some .int) 1 (tI h) (fX11_at a0 p1 h) 0 [(0, .ref a0), (1, .int p1)] [] h := by
  unfold fX11_at
  refine sim_iload_n 1 rfl dX11_at_0 ?_
  refine sim_if_lt (tgt := 16) dX11_at_1 (by decide) (fun c1 => ?_) (fun c1 => ?_)
  · refine sim_iconst (v := 0) (by decide) dX11_at_16 ?_
    exact sim_iret rfl rfl dX11_at_17
  · refine sim_iload_n 1 rfl dX11_at_4 ?_
    refine sim_aload_n 0 rfl dX11_at_5 ?_
    refine sim_alen (v := Int32.ofNat (aln a0)) ia0 (by decide) rfl dX11_at_6 ?_
    refine sim_icmp_ge (tgt := 16) dX11_at_7 (by decide) (fun c2 => ?_) (fun c2 => ?_)
    · refine sim_iconst (v := 0) (by decide) dX11_at_16 ?_
      exact sim_iret rfl rfl dX11_at_17
    · refine sim_aload_n 0 rfl dX11_at_10 ?_
      refine sim_iload_n 1 rfl dX11_at_11 ?_
      refine sim_iald ia0 (vp_aln ia0 c1 c2) dX11_at_12 ?_
      refine sim_goto (tgt := 17) dX11_at_13 (by decide) ?_
      exact sim_iret rfl rfl dX11_at_17
theorem okX11_at (a0 : Nat) (ia0 : isA a0) (p1 : Int32) (h : AH) : Ok yX11_at cX11_at 2 (some .int) 1 [.ref a0, .int p1] h (some (.int (fX11_at a0 p1 h)), h) := ok_of (sX11_at a0 ia0 p1 h) rfl (by decide +kernel) (Nat.le_of_ble_eq_true rfl)
def fX9_modulo (p1 : Int32) (h : AH) : Int32 :=
  if 0 < (h.1 3 0) then
    jrem p1 (h.1 3 0)
  else
    (0 : Int32)
theorem sX9_modulo (p1 : Int32) (h : AH) : Sim RX9 cX9_modulo 2 (some .int) 1 (tI h) (fX9_modulo p1 h) 0 [(0, .ref 3), (1, .int p1)] [] h := by
  unfold fX9_modulo
  refine sim_aload_n 0 rfl dX9_modulo_0 ?_
  refine sim_getI flX9_9 rfl rfl dX9_modulo_1 ?_
  refine sim_if_le (tgt := 16) dX9_modulo_4 (by decide) (fun c1 => ?_) (fun c1 => ?_)
  · refine sim_iconst (v := 0) (by decide) dX9_modulo_16 ?_
    exact sim_iret rfl rfl dX9_modulo_17
  · refine sim_iload_n 1 rfl dX9_modulo_7 ?_
    refine sim_aload_n 0 rfl dX9_modulo_8 ?_
    refine sim_getI flX9_9 rfl rfl dX9_modulo_9 ?_
    refine sim_irem (pos_ne c1) dX9_modulo_12 ?_
    refine sim_goto (tgt := 17) dX9_modulo_13 (by decide) ?_
    exact sim_iret rfl rfl dX9_modulo_17
theorem okX9_modulo (p1 : Int32) (h : AH) : Ok yX9_modulo cX9_modulo 2 (some .int) 1 [.ref 3, .int p1] h (some (.int (fX9_modulo p1 h)), h) := ok_of (sX9_modulo p1 h) rfl (by decide +kernel) (Nat.le_of_ble_eq_true rfl)
def fX11_put (a0 : Nat) (p1 : Int32) (p2 : Int32) (h : AH) : AH :=
  if p1 < 0 then
    h
  else
    if p1 < (Int32.ofNat (aln a0)) then
      letT (sI h a0 p1.toNatClampNeg p2) (fun g3 =>
      g3)
    else
      h
theorem sX11_put (a0 : Nat) (ia0 : isA a0) (p1 : Int32) (p2 : Int32) (h : AH) : Sim RX11 cX11_put 3 none 1 (tV) (fX11_put a0 p1 p2 h) 0 [(0, .ref a0), (1, .int p1), (2, .int p2)] [] h := by
  unfold fX11_put
  refine sim_iload_n 1 rfl dX11_put_0 ?_
  refine sim_if_lt (tgt := 14) dX11_put_1 (by decide) (fun c1 => ?_) (fun c1 => ?_)
  · exact sim_vret rfl rfl dX11_put_14
  · refine sim_iload_n 1 rfl dX11_put_4 ?_
    refine sim_aload_n 0 rfl dX11_put_5 ?_
    refine sim_alen (v := Int32.ofNat (aln a0)) ia0 (by decide) rfl dX11_put_6 ?_
    refine sim_icmp_ge (tgt := 14) dX11_put_7 (by decide) (fun c2 => ?_) (fun c2 => ?_)
    · exact sim_vret rfl rfl dX11_put_14
    · refine sim_aload_n 0 rfl dX11_put_10 ?_
      refine sim_iload_n 1 rfl dX11_put_11 ?_
      refine sim_iload_n 2 rfl dX11_put_12 ?_
      refine sim_iast ia0 (vp_aln ia0 c1 c2) dX11_put_13 ?_
      refine sim_nmH (fun g3 => ?_)
      exact sim_vret rfl rfl dX11_put_14
theorem okX11_put (a0 : Nat) (ia0 : isA a0) (p1 : Int32) (p2 : Int32) (h : AH) : Ok yX11_put cX11_put 3 none 1 [.ref a0, .int p1, .int p2] h (none, fX11_put a0 p1 p2 h) := ok_of (sX11_put a0 ia0 p1 p2 h) rfl (by decide +kernel) (Nat.le_of_ble_eq_true rfl)
def fX9_reckonBy_l14b (rec : Int32 → AH → Option AH) (x2 : Int32) (h : AH) : Option AH :=
  if x2 < (10 : Int32) then
    letT (fX11_put 4 x2 (fX9_modulo (fX11_at 4 x2 h) h) h) (fun g4 =>
    rec (x2 + 1) g4)
  else
    some h
def fX9_reckonBy_l14 : Nat → Int32 → AH → Option AH
  | 0, _, _ => none
  | n + 1, x2, h => fX9_reckonBy_l14b (fX9_reckonBy_l14 n) x2 h
theorem sX9_reckonBy_l14b {rec : Int32 → AH → Option AH} (hR : ∀ (x2 : Int32) (h : AH), Sim RX9 cX9_reckonBy 3 none 2 (Option.map oV) (rec x2 h) 14 [(0, .ref 3), (2, .int x2)] [] h) : ∀ (x2 : Int32) (h : AH), Sim RX9 cX9_reckonBy 3 none 2 (Option.map oV) (fX9_reckonBy_l14b rec x2 h) 14 [(0, .ref 3), (2, .int x2)] [] h := by
  intro x2 h
  unfold fX9_reckonBy_l14b
  refine sim_iload_n 1 rfl dX9_reckonBy_14 ?_
  refine sim_bipush (v := 10) (by decide) dX9_reckonBy_15 ?_
  refine sim_icmp_ge (tgt := 46) dX9_reckonBy_17 (by decide) (fun c3 => ?_) (fun c3 => ?_)
  · exact sim_vret rfl rfl dX9_reckonBy_46
  · refine sim_aload_n 0 rfl dX9_reckonBy_20 ?_
    refine sim_getR flX9_18 rfl rfl dX9_reckonBy_21 ?_
    refine sim_iload_n 1 rfl dX9_reckonBy_24 ?_
    refine sim_aload_n 0 rfl dX9_reckonBy_25 ?_
    refine sim_aload_n 0 rfl dX9_reckonBy_26 ?_
    refine sim_getR flX9_18 rfl rfl dX9_reckonBy_27 ?_
    refine sim_iload_n 1 rfl dX9_reckonBy_30 ?_
    refine sim_cS (As := [.ref 4, .int x2]) (st := [.ref 3, .int x2, .ref 4]) (r := (some (.int (fX11_at 4 x2 h)))) (h1 := h) (okX11_at 4 rfl x2 h) (fun _ => rfl) mlX9_43 mtX11_at rfl (Nat.le_of_ble_eq_true rfl) rfl (Nat.le_of_ble_eq_true rfl) dX9_reckonBy_31 ?_
    refine sim_cV (As := [.int (fX11_at 4 x2 h)]) (st := [.int x2, .ref 4]) (r := (some (.int (fX9_modulo (fX11_at 4 x2 h) h)))) (h1 := h) (okX9_modulo (fX11_at 4 x2 h) h) (fun _ => rfl) mlX9_47 mtX9_modulo rfl rfl rfl rfl (Nat.le_of_ble_eq_true rfl) rfl (Nat.le_of_ble_eq_true rfl) dX9_reckonBy_34 ?_
    refine sim_cS (As := [.ref 4, .int x2, .int (fX9_modulo (fX11_at 4 x2 h) h)]) (st := []) (r := none) (h1 := (fX11_put 4 x2 (fX9_modulo (fX11_at 4 x2 h) h) h)) (okX11_put 4 rfl x2 (fX9_modulo (fX11_at 4 x2 h) h) h) (fun _ => rfl) mlX9_51 mtX11_put rfl (Nat.le_of_ble_eq_true rfl) rfl (Nat.le_of_ble_eq_true rfl) dX9_reckonBy_37 ?_
    refine sim_nmH (fun g4 => ?_)
    refine sim_iinc (v := x2 + 1) (L' := [(2, .int (x2 + 1)), (0, .ref 3)]) 1 rfl rfl rfl (by decide) dX9_reckonBy_40 ?_
    refine sim_goto (tgt := 14) dX9_reckonBy_43 (by decide) ?_
    refine sim_sub [1, 0] rfl ?_
    exact hR (x2 + 1) g4
theorem sX9_reckonBy_l14 : ∀ (n : Nat) (x2 : Int32) (h : AH), Sim RX9 cX9_reckonBy 3 none 2 (Option.map oV) (fX9_reckonBy_l14 n x2 h) 14 [(0, .ref 3), (2, .int x2)] [] h := by
  intro n
  induction n with
  | zero => intro x2 h; exact sim_none
  | succ n ih => intro x2 h; exact sX9_reckonBy_l14b ih x2 h
def fX9_reckonBy (p1 : Int32) (h : AH) : Option AH :=
  letT (sI h 3 0 p1) (fun g1 =>
  letT (fX6_clear g1) (fun g2 =>
  fX9_reckonBy_l14 fuel0 (0 : Int32) g2))
theorem sX9_reckonBy (p1 : Int32) (h : AH) : Sim RX9 cX9_reckonBy 3 none 2 (Option.map oV) (fX9_reckonBy p1 h) 0 [(0, .ref 3), (1, .int p1)] [] h := by
  unfold fX9_reckonBy
  refine sim_aload_n 0 rfl dX9_reckonBy_0 ?_
  refine sim_iload_n 1 rfl dX9_reckonBy_1 ?_
  refine sim_putI fpX9_9 rfl rfl rfl rfl dX9_reckonBy_2 ?_
  refine sim_nmH (fun g1 => ?_)
  refine sim_aload_n 0 rfl dX9_reckonBy_5 ?_
  refine sim_getR flX9_28 rfl rfl dX9_reckonBy_6 ?_
  refine sim_cV (As := []) (st := []) (r := none) (h1 := (fX6_clear g1)) (okX6_clear g1) (fun _ => rfl) mlX9_40 mtX6_clear rfl rfl rfl rfl (Nat.le_of_ble_eq_true rfl) rfl (Nat.le_of_ble_eq_true rfl) dX9_reckonBy_9 ?_
  refine sim_nmH (fun g2 => ?_)
  refine sim_iconst (v := 0) (by decide) dX9_reckonBy_12 ?_
  refine sim_istore_n (L' := [(2, .int (0 : Int32)), (0, .ref 3), (1, .int p1)]) rfl (by decide) dX9_reckonBy_13 ?_
  refine sim_sub [1, 0] rfl ?_
  refine sX9_reckonBy_l14 _ (0 : Int32) g2
theorem okX9_reckonBy (p1 : Int32) (h : AH) (b : AH) (e : fX9_reckonBy p1 h = some b) : Ok yX9_reckonBy cX9_reckonBy 3 none 2 [.ref 3, .int p1] h (none, b) := ok_of (sX9_reckonBy p1 h) (by rw [e]; rfl) (by decide +kernel) (Nat.le_of_ble_eq_true rfl)
def fX11_modulus (p1 : Int32) (h : AH) : Option (Int32 × AH) :=
  if p1 < (2 : Int32) then
    some ((0 : Int32), h)
  else
    if (97 : Int32) < p1 then
      some ((0 : Int32), h)
    else
      (fX9_reckonBy p1 h).bind (fun b3 =>
      some ((1 : Int32), b3))
theorem sX11_modulus (p1 : Int32) (h : AH) : Sim RX11 cX11_modulus 2 (some .boolean) 3 (Option.map oI) (fX11_modulus p1 h) 0 [(0, .ref 0), (1, .int p1)] [] h := by
  unfold fX11_modulus
  refine sim_iload_n 1 rfl dX11_modulus_0 ?_
  refine sim_iconst (v := 2) (by decide) dX11_modulus_1 ?_
  refine sim_icmp_lt (tgt := 11) dX11_modulus_2 (by decide) (fun c1 => ?_) (fun c1 => ?_)
  · refine sim_iconst (v := 0) (by decide) dX11_modulus_11 ?_
    exact sim_zret rfl rfl rfl dX11_modulus_12
  · refine sim_iload_n 1 rfl dX11_modulus_5 ?_
    refine sim_bipush (v := 97) (by decide) dX11_modulus_6 ?_
    refine sim_icmp_le (tgt := 13) dX11_modulus_8 (by decide) (fun c2 => ?_) (fun c2 => ?_)
    · refine sim_aload_n 0 rfl dX11_modulus_13 ?_
      refine sim_getR flX11_19 rfl rfl dX11_modulus_14 ?_
      refine sim_iload_n 1 rfl dX11_modulus_17 ?_
      refine sim_bind (fun b3 e4 => ?_)
      refine sim_cV (As := [.int p1]) (st := []) (r := none) (h1 := b3) (okX9_reckonBy p1 h b3 e4) (fun _ => rfl) mlX11_101 mtX9_reckonBy rfl rfl rfl rfl (Nat.le_of_ble_eq_true rfl) rfl (Nat.le_of_ble_eq_true rfl) dX11_modulus_18 ?_
      refine sim_iconst (v := 1) (by decide) dX11_modulus_21 ?_
      exact sim_zret rfl rfl rfl dX11_modulus_22
    · refine sim_iconst (v := 0) (by decide) dX11_modulus_11 ?_
      exact sim_zret rfl rfl rfl dX11_modulus_12
theorem okX11_modulus (p1 : Int32) (h : AH) (b : Int32 × AH) (e : fX11_modulus p1 h = some b) : Ok yX11_modulus cX11_modulus 2 (some .boolean) 3 [.ref 0, .int p1] h (some (.int b.1), b.2) := ok_of (sX11_modulus p1 h) (by rw [e]; rfl) (by decide +kernel) (Nat.le_of_ble_eq_true rfl)
def fX9_isClaim (p1 : Int32) (h : AH) : Int32 :=
  if p1 < 0 then
    (0 : Int32)
  else
    if p1 < (h.1 3 0) then
      (1 : Int32)
    else
      (0 : Int32)
theorem sX9_isClaim (p1 : Int32) (h : AH) : Sim RX9 cX9_isClaim 2 (some .boolean) 1 (tI h) (fX9_isClaim p1 h) 0 [(0, .ref 3), (1, .int p1)] [] h := by
  unfold fX9_isClaim
  refine sim_iload_n 1 rfl dX9_isClaim_0 ?_
  refine sim_if_lt (tgt := 16) dX9_isClaim_1 (by decide) (fun c1 => ?_) (fun c1 => ?_)
  · refine sim_iconst (v := 0) (by decide) dX9_isClaim_16 ?_
    exact sim_zret rfl rfl rfl dX9_isClaim_17
  · refine sim_iload_n 1 rfl dX9_isClaim_4 ?_
    refine sim_aload_n 0 rfl dX9_isClaim_5 ?_
    refine sim_getI flX9_9 rfl rfl dX9_isClaim_6 ?_
    refine sim_icmp_ge (tgt := 16) dX9_isClaim_9 (by decide) (fun c2 => ?_) (fun c2 => ?_)
    · refine sim_iconst (v := 0) (by decide) dX9_isClaim_16 ?_
      exact sim_zret rfl rfl rfl dX9_isClaim_17
    · refine sim_iconst (v := 1) (by decide) dX9_isClaim_12 ?_
      refine sim_goto (tgt := 17) dX9_isClaim_13 (by decide) ?_
      exact sim_zret rfl rfl rfl dX9_isClaim_17
theorem okX9_isClaim (p1 : Int32) (h : AH) : Ok yX9_isClaim cX9_isClaim 2 (some .boolean) 1 [.ref 3, .int p1] h (some (.int (fX9_isClaim p1 h)), h) := ok_of (sX9_isClaim p1 h) rfl (by decide +kernel) (Nat.le_of_ble_eq_true rfl)
def fX11_axiom (p1 : Int32) (p2 : Int32) (h : AH) : Int32 × AH :=
  if p1 < 0 then
    ((0 : Int32), h)
  else
    if p1 < (10 : Int32) then
      if (fX9_isClaim p2 h) = 0 then
        ((0 : Int32), h)
      else
        letT (fX11_put 4 p1 p2 h) (fun g4 =>
        ((1 : Int32), g4))
    else
      ((0 : Int32), h)
theorem sX11_axiom (p1 : Int32) (p2 : Int32) (h : AH) : Sim RX11 cX11_axiom 3 (some .boolean) 2 (tP) (fX11_axiom p1 p2 h) 0 [(0, .ref 0), (1, .int p1), (2, .int p2)] [] h := by
  unfold fX11_axiom
  refine sim_iload_n 1 rfl dX11_axiom_0 ?_
  refine sim_if_lt (tgt := 21) dX11_axiom_1 (by decide) (fun c1 => ?_) (fun c1 => ?_)
  · refine sim_iconst (v := 0) (by decide) dX11_axiom_21 ?_
    exact sim_zret rfl rfl rfl dX11_axiom_22
  · refine sim_iload_n 1 rfl dX11_axiom_4 ?_
    refine sim_bipush (v := 10) (by decide) dX11_axiom_5 ?_
    refine sim_icmp_ge (tgt := 21) dX11_axiom_7 (by decide) (fun c2 => ?_) (fun c2 => ?_)
    · refine sim_iconst (v := 0) (by decide) dX11_axiom_21 ?_
      exact sim_zret rfl rfl rfl dX11_axiom_22
    · refine sim_aload_n 0 rfl dX11_axiom_10 ?_
      refine sim_getR flX11_19 rfl rfl dX11_axiom_11 ?_
      refine sim_iload_n 2 rfl dX11_axiom_14 ?_
      refine sim_cV (As := [.int p2]) (st := []) (r := (some (.int (fX9_isClaim p2 h)))) (h1 := h) (okX9_isClaim p2 h) (fun _ => rfl) mlX11_105 mtX9_isClaim rfl rfl rfl rfl (Nat.le_of_ble_eq_true rfl) rfl (Nat.le_of_ble_eq_true rfl) dX11_axiom_15 ?_
      refine sim_if_ne (tgt := 23) dX11_axiom_18 (by decide) (fun c3 => ?_) (fun c3 => ?_)
      · refine sim_aload_n 0 rfl dX11_axiom_23 ?_
        refine sim_getR flX11_19 rfl rfl dX11_axiom_24 ?_
        refine sim_getR flX11_109 rfl rfl dX11_axiom_27 ?_
        refine sim_iload_n 1 rfl dX11_axiom_30 ?_
        refine sim_iload_n 2 rfl dX11_axiom_31 ?_
        refine sim_cS (As := [.ref 4, .int p1, .int p2]) (st := []) (r := none) (h1 := (fX11_put 4 p1 p2 h)) (okX11_put 4 rfl p1 p2 h) (fun _ => rfl) mlX11_112 mtX11_put rfl (Nat.le_of_ble_eq_true rfl) rfl (Nat.le_of_ble_eq_true rfl) dX11_axiom_32 ?_
        refine sim_nmH (fun g4 => ?_)
        refine sim_iconst (v := 1) (by decide) dX11_axiom_35 ?_
        exact sim_zret rfl rfl rfl dX11_axiom_36
      · refine sim_iconst (v := 0) (by decide) dX11_axiom_21 ?_
        exact sim_zret rfl rfl rfl dX11_axiom_22
theorem okX11_axiom (p1 : Int32) (p2 : Int32) (h : AH) : Ok yX11_axiom cX11_axiom 3 (some .boolean) 2 [.ref 0, .int p1, .int p2] h (some (.int (fX11_axiom p1 p2 h).1), (fX11_axiom p1 p2 h).2) := ok_of (sX11_axiom p1 p2 h) rfl (by decide +kernel) (Nat.le_of_ble_eq_true rfl)
def fX10_append_l3b (rec : Int32 → AH → Option AH) (x1 : Int32) (x2 : Int32) (h : AH) : Option AH :=
  if x2 < 0 then
    some h
  else
    letT (fX11_put 2 (h.1 1 1) ((jshr x1 x2) &&& (255 : Int32)) h) (fun g2 =>
    letT (sI g2 1 1 ((g2.1 1 1) + (1 : Int32))) (fun g3 =>
    rec (x2 + (-8 : Int32)) g3))
def fX10_append_l3 (x1 : Int32) : Nat → Int32 → AH → Option AH
  | 0, _, _ => none
  | n + 1, x2, h => fX10_append_l3b (fX10_append_l3 x1 n) x1 x2 h
theorem sX10_append_l3b {rec : Int32 → AH → Option AH} {x1 : Int32} (hR : ∀ (x2 : Int32) (h : AH), Sim RX10 cX10_append 3 none 2 (Option.map oV) (rec x2 h) 3 [(0, .ref 1), (1, .int x1), (2, .int x2)] [] h) : ∀ (x2 : Int32) (h : AH), Sim RX10 cX10_append 3 none 2 (Option.map oV) (fX10_append_l3b rec x1 x2 h) 3 [(0, .ref 1), (1, .int x1), (2, .int x2)] [] h := by
  intro x2 h
  unfold fX10_append_l3b
  refine sim_iload_n 2 rfl dX10_append_3 ?_
  refine sim_if_lt (tgt := 41) dX10_append_4 (by decide) (fun c1 => ?_) (fun c1 => ?_)
  · exact sim_vret rfl rfl dX10_append_41
  · refine sim_aload_n 0 rfl dX10_append_7 ?_
    refine sim_getR flX10_9 rfl rfl dX10_append_8 ?_
    refine sim_aload_n 0 rfl dX10_append_11 ?_
    refine sim_getI flX10_15 rfl rfl dX10_append_12 ?_
    refine sim_iload_n 1 rfl dX10_append_15 ?_
    refine sim_iload_n 2 rfl dX10_append_16 ?_
    refine sim_ishr dX10_append_17 ?_
    refine sim_sipush (v := 255) (by decide) dX10_append_18 ?_
    refine sim_iand dX10_append_21 ?_
    refine sim_cS (As := [.ref 2, .int (h.1 1 1), .int ((jshr x1 x2) &&& (255 : Int32))]) (st := []) (r := none) (h1 := (fX11_put 2 (h.1 1 1) ((jshr x1 x2) &&& (255 : Int32)) h)) (okX11_put 2 rfl (h.1 1 1) ((jshr x1 x2) &&& (255 : Int32)) h) (fun _ => rfl) mlX10_31 mtX11_put rfl (Nat.le_of_ble_eq_true rfl) rfl (Nat.le_of_ble_eq_true rfl) dX10_append_22 ?_
    refine sim_nmH (fun g2 => ?_)
    refine sim_aload_n 0 rfl dX10_append_25 ?_
    refine sim_dup dX10_append_26 rfl ?_
    refine sim_getI flX10_15 rfl rfl dX10_append_27 ?_
    refine sim_iconst (v := 1) (by decide) dX10_append_30 ?_
    refine sim_iadd dX10_append_31 ?_
    refine sim_putI fpX10_15 rfl rfl rfl rfl dX10_append_32 ?_
    refine sim_nmH (fun g3 => ?_)
    refine sim_iinc (v := x2 + (-8 : Int32)) (L' := [(2, .int (x2 + (-8 : Int32))), (0, .ref 1), (1, .int x1)]) 2 rfl (congrArg (fun q => x2 + q) (by decide)) rfl (by decide) dX10_append_35 ?_
    refine sim_goto (tgt := 3) dX10_append_38 (by decide) ?_
    refine sim_sub [1, 2, 0] rfl ?_
    exact hR (x2 + (-8 : Int32)) g3
theorem sX10_append_l3 {x1 : Int32} : ∀ (n : Nat) (x2 : Int32) (h : AH), Sim RX10 cX10_append 3 none 2 (Option.map oV) (fX10_append_l3 x1 n x2 h) 3 [(0, .ref 1), (1, .int x1), (2, .int x2)] [] h := by
  intro n
  induction n with
  | zero => intro x2 h; exact sim_none
  | succ n ih => intro x2 h; exact sX10_append_l3b ih x2 h
def fX10_append (p1 : Int32) (h : AH) : Option AH :=
  fX10_append_l3 p1 fuel0 (24 : Int32) h
theorem sX10_append (p1 : Int32) (h : AH) : Sim RX10 cX10_append 3 none 2 (Option.map oV) (fX10_append p1 h) 0 [(0, .ref 1), (1, .int p1)] [] h := by
  unfold fX10_append
  refine sim_bipush (v := 24) (by decide) dX10_append_0 ?_
  refine sim_istore_n (L' := [(2, .int (24 : Int32)), (0, .ref 1), (1, .int p1)]) rfl (by decide) dX10_append_2 ?_
  refine sim_sub [1, 2, 0] rfl ?_
  refine sX10_append_l3 _ (24 : Int32) h
theorem okX10_append (p1 : Int32) (h : AH) (b : AH) (e : fX10_append p1 h = some b) : Ok yX10_append cX10_append 3 none 2 [.ref 1, .int p1] h (none, b) := ok_of (sX10_append p1 h) (by rw [e]; rfl) (by decide +kernel) (Nat.le_of_ble_eq_true rfl)
def fX11_feed (p1 : Int32) (p2 : Int32) (p3 : Int32) (p4 : Int32) (p5 : Int32) (h : AH) : Option (Int32 × AH) :=
  if (220 : Int32) < ((h.1 1 1) + (20 : Int32)) then
    some ((-1 : Int32), h)
  else
    (fX10_append p1 h).bind (fun b2 =>
    (fX10_append p2 b2).bind (fun b4 =>
    (fX10_append p3 b4).bind (fun b6 =>
    (fX10_append p4 b6).bind (fun b8 =>
    (fX10_append p5 b8).bind (fun b10 =>
    some (b10.1 1 1, b10))))))
theorem sX11_feed (p1 : Int32) (p2 : Int32) (p3 : Int32) (p4 : Int32) (p5 : Int32) (h : AH) : Sim RX11 cX11_feed 6 (some .int) 3 (Option.map oI) (fX11_feed p1 p2 p3 p4 p5 h) 0 [(0, .ref 0), (1, .int p1), (2, .int p2), (3, .int p3), (4, .int p4), (5, .int p5)] [] h := by
  unfold fX11_feed
  refine sim_aload_n 0 rfl dX11_feed_0 ?_
  refine sim_getR flX11_10 rfl rfl dX11_feed_1 ?_
  refine sim_getI flX11_116 rfl rfl dX11_feed_4 ?_
  refine sim_bipush (v := 20) (by decide) dX11_feed_7 ?_
  refine sim_iadd dX11_feed_9 ?_
  refine sim_sipush (v := 220) (by decide) dX11_feed_10 ?_
  refine sim_icmp_le (tgt := 18) dX11_feed_13 (by decide) (fun c1 => ?_) (fun c1 => ?_)
  · refine sim_aload_n 0 rfl dX11_feed_18 ?_
    refine sim_getR flX11_10 rfl rfl dX11_feed_19 ?_
    refine sim_iload_n 1 rfl dX11_feed_22 ?_
    refine sim_bind (fun b2 e3 => ?_)
    refine sim_cV (As := [.int p1]) (st := []) (r := none) (h1 := b2) (okX10_append p1 h b2 e3) (fun _ => rfl) mlX11_120 mtX10_append rfl rfl rfl rfl (Nat.le_of_ble_eq_true rfl) rfl (Nat.le_of_ble_eq_true rfl) dX11_feed_23 ?_
    refine sim_aload_n 0 rfl dX11_feed_26 ?_
    refine sim_getR flX11_10 rfl rfl dX11_feed_27 ?_
    refine sim_iload_n 2 rfl dX11_feed_30 ?_
    refine sim_bind (fun b4 e5 => ?_)
    refine sim_cV (As := [.int p2]) (st := []) (r := none) (h1 := b4) (okX10_append p2 b2 b4 e5) (fun _ => rfl) mlX11_120 mtX10_append rfl rfl rfl rfl (Nat.le_of_ble_eq_true rfl) rfl (Nat.le_of_ble_eq_true rfl) dX11_feed_31 ?_
    refine sim_aload_n 0 rfl dX11_feed_34 ?_
    refine sim_getR flX11_10 rfl rfl dX11_feed_35 ?_
    refine sim_iload_n 3 rfl dX11_feed_38 ?_
    refine sim_bind (fun b6 e7 => ?_)
    refine sim_cV (As := [.int p3]) (st := []) (r := none) (h1 := b6) (okX10_append p3 b4 b6 e7) (fun _ => rfl) mlX11_120 mtX10_append rfl rfl rfl rfl (Nat.le_of_ble_eq_true rfl) rfl (Nat.le_of_ble_eq_true rfl) dX11_feed_39 ?_
    refine sim_aload_n 0 rfl dX11_feed_42 ?_
    refine sim_getR flX11_10 rfl rfl dX11_feed_43 ?_
    refine sim_iload 4 rfl dX11_feed_46 ?_
    refine sim_bind (fun b8 e9 => ?_)
    refine sim_cV (As := [.int p4]) (st := []) (r := none) (h1 := b8) (okX10_append p4 b6 b8 e9) (fun _ => rfl) mlX11_120 mtX10_append rfl rfl rfl rfl (Nat.le_of_ble_eq_true rfl) rfl (Nat.le_of_ble_eq_true rfl) dX11_feed_48 ?_
    refine sim_aload_n 0 rfl dX11_feed_51 ?_
    refine sim_getR flX11_10 rfl rfl dX11_feed_52 ?_
    refine sim_iload 5 rfl dX11_feed_55 ?_
    refine sim_bind (fun b10 e11 => ?_)
    refine sim_cV (As := [.int p5]) (st := []) (r := none) (h1 := b10) (okX10_append p5 b8 b10 e11) (fun _ => rfl) mlX11_120 mtX10_append rfl rfl rfl rfl (Nat.le_of_ble_eq_true rfl) rfl (Nat.le_of_ble_eq_true rfl) dX11_feed_57 ?_
    refine sim_aload_n 0 rfl dX11_feed_60 ?_
    refine sim_getR flX11_10 rfl rfl dX11_feed_61 ?_
    refine sim_getI flX11_116 rfl rfl dX11_feed_64 ?_
    exact sim_iret rfl rfl dX11_feed_67
  · refine sim_iconst (v := -1) (by decide) dX11_feed_16 ?_
    exact sim_iret rfl rfl dX11_feed_17
theorem okX11_feed (p1 : Int32) (p2 : Int32) (p3 : Int32) (p4 : Int32) (p5 : Int32) (h : AH) (b : Int32 × AH) (e : fX11_feed p1 p2 p3 p4 p5 h = some b) : Ok yX11_feed cX11_feed 6 (some .int) 3 [.ref 0, .int p1, .int p2, .int p3, .int p4, .int p5] h (some (.int b.1), b.2) := ok_of (sX11_feed p1 p2 p3 p4 p5 h) (by rw [e]; rfl) (by decide +kernel) (Nat.le_of_ble_eq_true rfl)
def fX10_step (h : AH) : AH :=
  letT (sI h 1 2 ((h.1 1 2) + (1 : Int32))) (fun g1 =>
  if (g1.1 1 2) < 0 then
    letT (sI g1 1 3 (-1 : Int32)) (fun g3 =>
    g3)
  else
    if (g1.1 1 2) < (g1.1 1 5) then
      if (g1.1 1 2) < (220 : Int32) then
        letT (sI g1 1 3 (g1.1 2 (g1.1 1 2).toNatClampNeg)) (fun g8 =>
        g8)
      else
        letT (sI g1 1 3 (-1 : Int32)) (fun g7 =>
        g7)
    else
      letT (sI g1 1 3 (-1 : Int32)) (fun g5 =>
      g5))
theorem sX10_step (h : AH) : Sim RX10 cX10_step 1 none 1 (tV) (fX10_step h) 0 [(0, .ref 1)] [] h := by
  unfold fX10_step
  refine sim_aload_n 0 rfl dX10_step_0 ?_
  refine sim_dup dX10_step_1 rfl ?_
  refine sim_getI flX10_19 rfl rfl dX10_step_2 ?_
  refine sim_iconst (v := 1) (by decide) dX10_step_5 ?_
  refine sim_iadd dX10_step_6 ?_
  refine sim_putI fpX10_19 rfl rfl rfl rfl dX10_step_7 ?_
  refine sim_nmH (fun g1 => ?_)
  refine sim_aload_n 0 rfl dX10_step_10 ?_
  refine sim_aload_n 0 rfl dX10_step_11 ?_
  refine sim_getI flX10_19 rfl rfl dX10_step_12 ?_
  refine sim_if_lt (tgt := 53) dX10_step_15 (by decide) (fun c2 => ?_) (fun c2 => ?_)
  · refine sim_iconst (v := -1) (by decide) dX10_step_53 ?_
    refine sim_putI fpX10_22 rfl rfl rfl rfl dX10_step_54 ?_
    refine sim_nmH (fun g3 => ?_)
    exact sim_vret rfl rfl dX10_step_57
  · refine sim_aload_n 0 rfl dX10_step_18 ?_
    refine sim_getI flX10_19 rfl rfl dX10_step_19 ?_
    refine sim_aload_n 0 rfl dX10_step_22 ?_
    refine sim_getI flX10_28 rfl rfl dX10_step_23 ?_
    refine sim_icmp_ge (tgt := 53) dX10_step_26 (by decide) (fun c4 => ?_) (fun c4 => ?_)
    · refine sim_iconst (v := -1) (by decide) dX10_step_53 ?_
      refine sim_putI fpX10_22 rfl rfl rfl rfl dX10_step_54 ?_
      refine sim_nmH (fun g5 => ?_)
      exact sim_vret rfl rfl dX10_step_57
    · refine sim_aload_n 0 rfl dX10_step_29 ?_
      refine sim_getI flX10_19 rfl rfl dX10_step_30 ?_
      refine sim_aload_n 0 rfl dX10_step_33 ?_
      refine sim_getR flX10_9 rfl rfl dX10_step_34 ?_
      refine sim_alen (v := 220) rfl (by decide) rfl dX10_step_37 ?_
      refine sim_icmp_ge (tgt := 53) dX10_step_38 (by decide) (fun c6 => ?_) (fun c6 => ?_)
      · refine sim_iconst (v := -1) (by decide) dX10_step_53 ?_
        refine sim_putI fpX10_22 rfl rfl rfl rfl dX10_step_54 ?_
        refine sim_nmH (fun g7 => ?_)
        exact sim_vret rfl rfl dX10_step_57
      · refine sim_aload_n 0 rfl dX10_step_41 ?_
        refine sim_getR flX10_9 rfl rfl dX10_step_42 ?_
        refine sim_aload_n 0 rfl dX10_step_45 ?_
        refine sim_getI flX10_19 rfl rfl dX10_step_46 ?_
        refine sim_iald rfl (vp_lit (by decide) c2 c6) dX10_step_49 ?_
        refine sim_goto (tgt := 54) dX10_step_50 (by decide) ?_
        refine sim_putI fpX10_22 rfl rfl rfl rfl dX10_step_54 ?_
        refine sim_nmH (fun g8 => ?_)
        exact sim_vret rfl rfl dX10_step_57
theorem okX10_step (h : AH) : Ok yX10_step cX10_step 1 none 1 [.ref 1] h (none, fX10_step h) := ok_of (sX10_step h) rfl (by decide +kernel) (Nat.le_of_ble_eq_true rfl)
def fX10_beginText (p1 : Int32) (h : AH) : AH :=
  letT (sI h 1 5 p1) (fun g1 =>
  letT (sI g1 1 4 (0 : Int32)) (fun g2 =>
  letT (sI g2 1 2 (-1 : Int32)) (fun g3 =>
  letT (fX10_step g3) (fun g4 =>
  g4))))
theorem sX10_beginText (p1 : Int32) (h : AH) : Sim RX10 cX10_beginText 2 none 2 (tV) (fX10_beginText p1 h) 0 [(0, .ref 1), (1, .int p1)] [] h := by
  unfold fX10_beginText
  refine sim_aload_n 0 rfl dX10_beginText_0 ?_
  refine sim_iload_n 1 rfl dX10_beginText_1 ?_
  refine sim_putI fpX10_28 rfl rfl rfl rfl dX10_beginText_2 ?_
  refine sim_nmH (fun g1 => ?_)
  refine sim_aload_n 0 rfl dX10_beginText_5 ?_
  refine sim_iconst (v := 0) (by decide) dX10_beginText_6 ?_
  refine sim_putI fpX10_25 rfl rfl rfl rfl dX10_beginText_7 ?_
  refine sim_nmH (fun g2 => ?_)
  refine sim_aload_n 0 rfl dX10_beginText_10 ?_
  refine sim_iconst (v := -1) (by decide) dX10_beginText_11 ?_
  refine sim_putI fpX10_19 rfl rfl rfl rfl dX10_beginText_12 ?_
  refine sim_nmH (fun g3 => ?_)
  refine sim_aload_n 0 rfl dX10_beginText_15 ?_
  refine sim_cV (As := []) (st := []) (r := none) (h1 := (fX10_step g3)) (okX10_step g3) (fun _ => rfl) mlX10_39 mtX10_step rfl rfl rfl rfl (Nat.le_of_ble_eq_true rfl) rfl (Nat.le_of_ble_eq_true rfl) dX10_beginText_16 ?_
  refine sim_nmH (fun g4 => ?_)
  exact sim_vret rfl rfl dX10_beginText_19
theorem okX10_beginText (p1 : Int32) (h : AH) : Ok yX10_beginText cX10_beginText 2 none 2 [.ref 1, .int p1] h (none, fX10_beginText p1 h) := ok_of (sX10_beginText p1 h) rfl (by decide +kernel) (Nat.le_of_ble_eq_true rfl)
def fX6_clear_1 (h : AH) : AH :=
  letT (sI h 26 0 (0 : Int32)) (fun g1 =>
  g1)
theorem sX6_clear_1 (h : AH) : Sim RX6 cX6_clear 1 none 1 (tV) (fX6_clear_1 h) 0 [(0, .ref 26)] [] h := by
  unfold fX6_clear_1
  refine sim_aload_n 0 rfl dX6_clear_0 ?_
  refine sim_iconst (v := 0) (by decide) dX6_clear_1 ?_
  refine sim_putI fpX6_9 rfl rfl rfl rfl dX6_clear_2 ?_
  refine sim_nmH (fun g1 => ?_)
  exact sim_vret rfl rfl dX6_clear_5
theorem okX6_clear_1 (h : AH) : Ok yX6_clear cX6_clear 1 none 1 [.ref 26] h (none, fX6_clear_1 h) := ok_of (sX6_clear_1 h) rfl (by decide +kernel) (Nat.le_of_ble_eq_true rfl)
def fX10_isAtDigit (h : AH) : Int32 :=
  if (h.1 1 3) < (48 : Int32) then
    (0 : Int32)
  else
    if (57 : Int32) < (h.1 1 3) then
      (0 : Int32)
    else
      (1 : Int32)
theorem sX10_isAtDigit (h : AH) : Sim RX10 cX10_isAtDigit 1 (some .boolean) 1 (tI h) (fX10_isAtDigit h) 0 [(0, .ref 1)] [] h := by
  unfold fX10_isAtDigit
  refine sim_aload_n 0 rfl dX10_isAtDigit_0 ?_
  refine sim_getI flX10_22 rfl rfl dX10_isAtDigit_1 ?_
  refine sim_bipush (v := 48) (by decide) dX10_isAtDigit_4 ?_
  refine sim_icmp_lt (tgt := 22) dX10_isAtDigit_6 (by decide) (fun c1 => ?_) (fun c1 => ?_)
  · refine sim_iconst (v := 0) (by decide) dX10_isAtDigit_22 ?_
    exact sim_zret rfl rfl rfl dX10_isAtDigit_23
  · refine sim_aload_n 0 rfl dX10_isAtDigit_9 ?_
    refine sim_getI flX10_22 rfl rfl dX10_isAtDigit_10 ?_
    refine sim_bipush (v := 57) (by decide) dX10_isAtDigit_13 ?_
    refine sim_icmp_gt (tgt := 22) dX10_isAtDigit_15 (by decide) (fun c2 => ?_) (fun c2 => ?_)
    · refine sim_iconst (v := 0) (by decide) dX10_isAtDigit_22 ?_
      exact sim_zret rfl rfl rfl dX10_isAtDigit_23
    · refine sim_iconst (v := 1) (by decide) dX10_isAtDigit_18 ?_
      refine sim_goto (tgt := 23) dX10_isAtDigit_19 (by decide) ?_
      exact sim_zret rfl rfl rfl dX10_isAtDigit_23
theorem okX10_isAtDigit (h : AH) : Ok yX10_isAtDigit cX10_isAtDigit 1 (some .boolean) 1 [.ref 1] h (some (.int (fX10_isAtDigit h)), h) := ok_of (sX10_isAtDigit h) rfl (by decide +kernel) (Nat.le_of_ble_eq_true rfl)
def fX10_failHere (h : AH) : AH :=
  if (h.1 1 4) = 0 then
    letT (sI h 1 4 ((1000 : Int32) + (h.1 1 2))) (fun g2 =>
    g2)
  else
    h
theorem sX10_failHere (h : AH) : Sim RX10 cX10_failHere 1 none 1 (tV) (fX10_failHere h) 0 [(0, .ref 1)] [] h := by
  unfold fX10_failHere
  refine sim_aload_n 0 rfl dX10_failHere_0 ?_
  refine sim_getI flX10_25 rfl rfl dX10_failHere_1 ?_
  refine sim_if_ne (tgt := 19) dX10_failHere_4 (by decide) (fun c1 => ?_) (fun c1 => ?_)
  · exact sim_vret rfl rfl dX10_failHere_19
  · refine sim_aload_n 0 rfl dX10_failHere_7 ?_
    refine sim_sipush (v := 1000) (by decide) dX10_failHere_8 ?_
    refine sim_aload_n 0 rfl dX10_failHere_11 ?_
    refine sim_getI flX10_19 rfl rfl dX10_failHere_12 ?_
    refine sim_iadd dX10_failHere_15 ?_
    refine sim_putI fpX10_25 rfl rfl rfl rfl dX10_failHere_16 ?_
    refine sim_nmH (fun g2 => ?_)
    exact sim_vret rfl rfl dX10_failHere_19
theorem okX10_failHere (h : AH) : Ok yX10_failHere cX10_failHere 1 none 1 [.ref 1] h (none, fX10_failHere h) := ok_of (sX10_failHere h) rfl (by decide +kernel) (Nat.le_of_ble_eq_true rfl)
def fX7_digit (h : AH) : Int32 × AH :=
  if (fX10_isAtDigit h) = 0 then
    letT (fX10_failHere h) (fun g4 =>
    ((0 : Int32), g4))
  else
    letT ((h.1 1 3) - (48 : Int32)) (fun v2 =>
    letT (fX10_step h) (fun g3 =>
    (v2, g3)))
theorem sX7_digit (h : AH) : Sim RX7 cX7_digit 2 (some .int) 2 (tP) (fX7_digit h) 0 [(0, .ref 25)] [] h := by
  unfold fX7_digit
  refine sim_aload_n 0 rfl dX7_digit_0 ?_
  refine sim_getR flX7_18 rfl rfl dX7_digit_1 ?_
  refine sim_cV (As := []) (st := []) (r := (some (.int (fX10_isAtDigit h)))) (h1 := h) (okX10_isAtDigit h) (fun _ => rfl) mlX7_53 mtX10_isAtDigit rfl rfl rfl rfl (Nat.le_of_ble_eq_true rfl) rfl (Nat.le_of_ble_eq_true rfl) dX7_digit_4 ?_
  refine sim_if_ne (tgt := 19) dX7_digit_7 (by decide) (fun c1 => ?_) (fun c1 => ?_)
  · refine sim_aload_n 0 rfl dX7_digit_19 ?_
    refine sim_getR flX7_18 rfl rfl dX7_digit_20 ?_
    refine sim_getI flX7_86 rfl rfl dX7_digit_23 ?_
    refine sim_bipush (v := 48) (by decide) dX7_digit_26 ?_
    refine sim_isub dX7_digit_28 ?_
    refine sim_nmI (fun v2 => ?_)
    refine sim_istore_n (L' := [(1, .int v2), (0, .ref 25)]) rfl (by decide) dX7_digit_29 ?_
    refine sim_aload_n 1 rfl dX7_digit_30 ?_
    refine sim_getR flX7_18 rfl rfl dX7_digit_31 ?_
    refine sim_cV (As := []) (st := []) (r := none) (h1 := (fX10_step h)) (okX10_step h) (fun _ => rfl) mlX7_75 mtX10_step rfl rfl rfl rfl (Nat.le_of_ble_eq_true rfl) rfl (Nat.le_of_ble_eq_true rfl) dX7_digit_34 ?_
    refine sim_nmH (fun g3 => ?_)
    refine sim_iload_n 0 rfl dX7_digit_37 ?_
    exact sim_iret rfl rfl dX7_digit_38
  · refine sim_aload_n 0 rfl dX7_digit_10 ?_
    refine sim_getR flX7_18 rfl rfl dX7_digit_11 ?_
    refine sim_cV (As := []) (st := []) (r := none) (h1 := (fX10_failHere h)) (okX10_failHere h) (fun _ => rfl) mlX7_72 mtX10_failHere rfl rfl rfl rfl (Nat.le_of_ble_eq_true rfl) rfl (Nat.le_of_ble_eq_true rfl) dX7_digit_14 ?_
    refine sim_nmH (fun g4 => ?_)
    refine sim_iconst (v := 0) (by decide) dX7_digit_17 ?_
    exact sim_iret rfl rfl dX7_digit_18
theorem okX7_digit (h : AH) : Ok yX7_digit cX7_digit 2 (some .int) 2 [.ref 25] h (some (.int (fX7_digit h).1), (fX7_digit h).2) := ok_of (sX7_digit h) rfl (by decide +kernel) (Nat.le_of_ble_eq_true rfl)
def fX10_isSound (h : AH) : Int32 :=
  if (h.1 1 4) = 0 then
    (1 : Int32)
  else
    (0 : Int32)
theorem sX10_isSound (h : AH) : Sim RX10 cX10_isSound 1 (some .boolean) 1 (tI h) (fX10_isSound h) 0 [(0, .ref 1)] [] h := by
  unfold fX10_isSound
  refine sim_aload_n 0 rfl dX10_isSound_0 ?_
  refine sim_getI flX10_25 rfl rfl dX10_isSound_1 ?_
  refine sim_if_ne (tgt := 11) dX10_isSound_4 (by decide) (fun c1 => ?_) (fun c1 => ?_)
  · refine sim_iconst (v := 0) (by decide) dX10_isSound_11 ?_
    exact sim_zret rfl rfl rfl dX10_isSound_12
  · refine sim_iconst (v := 1) (by decide) dX10_isSound_7 ?_
    refine sim_goto (tgt := 12) dX10_isSound_8 (by decide) ?_
    exact sim_zret rfl rfl rfl dX10_isSound_12
theorem okX10_isSound (h : AH) : Ok yX10_isSound cX10_isSound 1 (some .boolean) 1 [.ref 1] h (some (.int (fX10_isSound h)), h) := ok_of (sX10_isSound h) rfl (by decide +kernel) (Nat.le_of_ble_eq_true rfl)
def fX10_fail (p1 : Int32) (p2 : Int32) (h : AH) : AH :=
  if (h.1 1 4) = 0 then
    letT (sI h 1 4 (((1000 : Int32) * p1) + p2)) (fun g2 =>
    g2)
  else
    h
theorem sX10_fail (p1 : Int32) (p2 : Int32) (h : AH) : Sim RX10 cX10_fail 3 none 1 (tV) (fX10_fail p1 p2 h) 0 [(0, .ref 1), (1, .int p1), (2, .int p2)] [] h := by
  unfold fX10_fail
  refine sim_aload_n 0 rfl dX10_fail_0 ?_
  refine sim_getI flX10_25 rfl rfl dX10_fail_1 ?_
  refine sim_if_ne (tgt := 18) dX10_fail_4 (by decide) (fun c1 => ?_) (fun c1 => ?_)
  · exact sim_vret rfl rfl dX10_fail_18
  · refine sim_aload_n 0 rfl dX10_fail_7 ?_
    refine sim_sipush (v := 1000) (by decide) dX10_fail_8 ?_
    refine sim_iload_n 1 rfl dX10_fail_11 ?_
    refine sim_imul dX10_fail_12 ?_
    refine sim_iload_n 2 rfl dX10_fail_13 ?_
    refine sim_iadd dX10_fail_14 ?_
    refine sim_putI fpX10_25 rfl rfl rfl rfl dX10_fail_15 ?_
    refine sim_nmH (fun g2 => ?_)
    exact sim_vret rfl rfl dX10_fail_18
theorem okX10_fail (p1 : Int32) (p2 : Int32) (h : AH) : Ok yX10_fail cX10_fail 3 none 1 [.ref 1, .int p1, .int p2] h (none, fX10_fail p1 p2 h) := ok_of (sX10_fail p1 p2 h) rfl (by decide +kernel) (Nat.le_of_ble_eq_true rfl)
def fX7_number (p1 : Int32) (p2 : Int32) (h : AH) : Int32 × AH :=
  letT (fX7_digit h) (fun b1 =>
  letT (fun (w2 : Int32) (g3 : AH) =>
    if w2 < p1 then
      (w2, g3)
    else
      letT (fX10_fail p2 (h.1 1 2) g3) (fun g6 =>
      (w2, g6))) (fun J4 =>
  if (fX10_isSound b1.2) = 0 then
    J4 b1.1 b1.2
  else
    if (fX10_isAtDigit b1.2) = 0 then
      J4 b1.1 b1.2
    else
      letT (fX7_digit b1.2) (fun b9 =>
      letT (((10 : Int32) * b1.1) + b9.1) (fun v10 =>
      J4 v10 b9.2))))
theorem sX7_number (p1 : Int32) (p2 : Int32) (h : AH) : Sim RX7 cX7_number 5 (some .int) 3 (tP) (fX7_number p1 p2 h) 0 [(0, .ref 25), (1, .int p1), (2, .int p2)] [] h := by
  unfold fX7_number
  refine sim_aload_n 0 rfl dX7_number_0 ?_
  refine sim_getR flX7_18 rfl rfl dX7_number_1 ?_
  refine sim_getI flX7_56 rfl rfl dX7_number_4 ?_
  refine sim_istore_n (L' := [(3, .int (h.1 1 2)), (0, .ref 25), (1, .int p1), (2, .int p2)]) rfl (by decide) dX7_number_7 ?_
  refine sim_aload_n 1 rfl dX7_number_8 ?_
  refine sim_cV (As := []) (st := []) (r := (some (.int ((fX7_digit h).1)))) (h1 := (fX7_digit h).2) (okX7_digit h) (fun _ => rfl) mlX7_78 mtX7_digit rfl rfl rfl rfl (Nat.le_of_ble_eq_true rfl) rfl (Nat.le_of_ble_eq_true rfl) dX7_number_9 ?_
  refine sim_nmP (fun b1 => ?_)
  refine sim_istore (L' := [(4, .int b1.1), (3, .int (h.1 1 2)), (0, .ref 25), (1, .int p1), (2, .int p2)]) rfl (by decide) dX7_number_12 ?_
  refine sim_aload_n 2 rfl dX7_number_14 ?_
  refine sim_getR flX7_18 rfl rfl dX7_number_15 ?_
  refine sim_cV (As := []) (st := []) (r := (some (.int (fX10_isSound b1.2)))) (h1 := b1.2) (okX10_isSound b1.2) (fun _ => rfl) mlX7_35 mtX10_isSound rfl rfl rfl rfl (Nat.le_of_ble_eq_true rfl) rfl (Nat.le_of_ble_eq_true rfl) dX7_number_18 ?_
  refine sim_letJ (fun J4 => ∀ (w2 : Int32) (g3 : AH), Sim RX7 cX7_number 5 (some .int) 3 (tP) (J4 w2 g3) 46 [(0, .ref 25), (1, .int p1), (2, .int p2), (3, .int (h.1 1 2)), (4, .int w2)] [] g3) (fun w2 g3 => ?_) (fun J4 hJ4 => ?_)
  · refine sim_iload 4 rfl dX7_number_46 ?_
    refine sim_iload_n 1 rfl dX7_number_48 ?_
    refine sim_icmp_lt (tgt := 61) dX7_number_49 (by decide) (fun c5 => ?_) (fun c5 => ?_)
    · refine sim_iload 4 rfl dX7_number_61 ?_
      exact sim_iret rfl rfl dX7_number_63
    · refine sim_aload_n 0 rfl dX7_number_52 ?_
      refine sim_getR flX7_18 rfl rfl dX7_number_53 ?_
      refine sim_iload_n 2 rfl dX7_number_56 ?_
      refine sim_iload_n 3 rfl dX7_number_57 ?_
      refine sim_cV (As := [.int p2, .int (h.1 1 2)]) (st := []) (r := none) (h1 := (fX10_fail p2 (h.1 1 2) g3)) (okX10_fail p2 (h.1 1 2) g3) (fun _ => rfl) mlX7_59 mtX10_fail rfl rfl rfl rfl (Nat.le_of_ble_eq_true rfl) rfl (Nat.le_of_ble_eq_true rfl) dX7_number_58 ?_
      refine sim_nmH (fun g6 => ?_)
      refine sim_iload 4 rfl dX7_number_61 ?_
      exact sim_iret rfl rfl dX7_number_63
  refine sim_if_eq (tgt := 46) dX7_number_21 (by decide) (fun c7 => ?_) (fun c7 => ?_)
  · refine sim_sub [2, 3, 4, 1, 0] rfl ?_
    exact hJ4 b1.1 b1.2
  · refine sim_aload_n 2 rfl dX7_number_24 ?_
    refine sim_getR flX7_18 rfl rfl dX7_number_25 ?_
    refine sim_cV (As := []) (st := []) (r := (some (.int (fX10_isAtDigit b1.2)))) (h1 := b1.2) (okX10_isAtDigit b1.2) (fun _ => rfl) mlX7_53 mtX10_isAtDigit rfl rfl rfl rfl (Nat.le_of_ble_eq_true rfl) rfl (Nat.le_of_ble_eq_true rfl) dX7_number_28 ?_
    refine sim_if_eq (tgt := 46) dX7_number_31 (by decide) (fun c8 => ?_) (fun c8 => ?_)
    · refine sim_sub [2, 3, 4, 1, 0] rfl ?_
      exact hJ4 b1.1 b1.2
    · refine sim_bipush (v := 10) (by decide) dX7_number_34 ?_
      refine sim_iload 0 rfl dX7_number_36 ?_
      refine sim_imul dX7_number_38 ?_
      refine sim_aload_n 2 rfl dX7_number_39 ?_
      refine sim_cV (As := []) (st := [.int ((10 : Int32) * b1.1)]) (r := (some (.int ((fX7_digit b1.2).1)))) (h1 := (fX7_digit b1.2).2) (okX7_digit b1.2) (fun _ => rfl) mlX7_78 mtX7_digit rfl rfl rfl rfl (Nat.le_of_ble_eq_true rfl) rfl (Nat.le_of_ble_eq_true rfl) dX7_number_40 ?_
      refine sim_nmP (fun b9 => ?_)
      refine sim_iadd dX7_number_43 ?_
      refine sim_nmI (fun v10 => ?_)
      refine sim_istore (L' := [(4, .int v10), (3, .int (h.1 1 2)), (0, .ref 25), (1, .int p1), (2, .int p2)]) rfl (by decide) dX7_number_44 ?_
      refine sim_sub [2, 3, 4, 1, 0] rfl ?_
      exact hJ4 v10 b9.2
theorem okX7_number (p1 : Int32) (p2 : Int32) (h : AH) : Ok yX7_number cX7_number 5 (some .int) 3 [.ref 25, .int p1, .int p2] h (some (.int (fX7_number p1 p2 h).1), (fX7_number p1 p2 h).2) := ok_of (sX7_number p1 p2 h) rfl (by decide +kernel) (Nat.le_of_ble_eq_true rfl)
def fX10_expect (p1 : Int32) (h : AH) : AH :=
  if (h.1 1 3) = p1 then
    letT (fX10_step h) (fun g3 =>
    g3)
  else
    letT (fX10_failHere h) (fun g2 =>
    g2)
theorem sX10_expect (p1 : Int32) (h : AH) : Sim RX10 cX10_expect 2 none 2 (tV) (fX10_expect p1 h) 0 [(0, .ref 1), (1, .int p1)] [] h := by
  unfold fX10_expect
  refine sim_aload_n 0 rfl dX10_expect_0 ?_
  refine sim_getI flX10_22 rfl rfl dX10_expect_1 ?_
  refine sim_iload_n 1 rfl dX10_expect_4 ?_
  refine sim_icmp_ne (tgt := 15) dX10_expect_5 (by decide) (fun c1 => ?_) (fun c1 => ?_)
  · refine sim_aload_n 0 rfl dX10_expect_15 ?_
    refine sim_cV (As := []) (st := []) (r := none) (h1 := (fX10_failHere h)) (okX10_failHere h) (fun _ => rfl) mlX10_48 mtX10_failHere rfl rfl rfl rfl (Nat.le_of_ble_eq_true rfl) rfl (Nat.le_of_ble_eq_true rfl) dX10_expect_16 ?_
    refine sim_nmH (fun g2 => ?_)
    exact sim_vret rfl rfl dX10_expect_19
  · refine sim_aload_n 0 rfl dX10_expect_8 ?_
    refine sim_cV (As := []) (st := []) (r := none) (h1 := (fX10_step h)) (okX10_step h) (fun _ => rfl) mlX10_39 mtX10_step rfl rfl rfl rfl (Nat.le_of_ble_eq_true rfl) rfl (Nat.le_of_ble_eq_true rfl) dX10_expect_9 ?_
    refine sim_nmH (fun g3 => ?_)
    refine sim_goto (tgt := 19) dX10_expect_12 (by decide) ?_
    exact sim_vret rfl rfl dX10_expect_19
theorem okX10_expect (p1 : Int32) (h : AH) : Ok yX10_expect cX10_expect 2 none 2 [.ref 1, .int p1] h (none, fX10_expect p1 h) := ok_of (sX10_expect p1 h) rfl (by decide +kernel) (Nat.le_of_ble_eq_true rfl)
def fX11_bit (p0 : Int32) (h : AH) : Int32 :=
  jshl (1 : Int32) p0
theorem sX11_bit (p0 : Int32) (h : AH) : Sim RX11 cX11_bit 1 (some .int) 1 (tI h) (fX11_bit p0 h) 0 [(0, .int p0)] [] h := by
  unfold fX11_bit
  refine sim_iconst (v := 1) (by decide) dX11_bit_0 ?_
  refine sim_iload_n 0 rfl dX11_bit_1 ?_
  refine sim_ishl dX11_bit_2 ?_
  exact sim_iret rfl rfl dX11_bit_3
theorem okX11_bit (p0 : Int32) (h : AH) : Ok yX11_bit cX11_bit 1 (some .int) 1 [.int p0] h (some (.int (fX11_bit p0 h)), h) := ok_of (sX11_bit p0 h) rfl (by decide +kernel) (Nat.le_of_ble_eq_true rfl)
def fX6_lean (p1 : Int32) (p2 : Int32) (h : AH) : AH :=
  letT (fX11_put 31 p1 (jmax (fX11_at 31 p1 h) ((fX11_at 31 p2 h) + (1 : Int32))) h) (fun g1 =>
  letT (fX11_put 33 p1 (((fX11_at 33 p1 g1) ||| (fX11_at 33 p2 g1)) ||| (fX11_bit p2 g1)) g1) (fun g2 =>
  letT (fX11_put 32 p2 ((fX11_at 32 p2 g2) + (1 : Int32)) g2) (fun g3 =>
  g3)))
theorem sX6_lean (p1 : Int32) (p2 : Int32) (h : AH) : Sim RX6 cX6_lean 3 none 2 (tV) (fX6_lean p1 p2 h) 0 [(0, .ref 26), (1, .int p1), (2, .int p2)] [] h := by
  unfold fX6_lean
  refine sim_aload_n 0 rfl dX6_lean_0 ?_
  refine sim_getR flX6_28 rfl rfl dX6_lean_1 ?_
  refine sim_iload_n 1 rfl dX6_lean_4 ?_
  refine sim_aload_n 0 rfl dX6_lean_5 ?_
  refine sim_getR flX6_28 rfl rfl dX6_lean_6 ?_
  refine sim_iload_n 1 rfl dX6_lean_9 ?_
  refine sim_cS (As := [.ref 31, .int p1]) (st := [.int p1, .ref 31]) (r := (some (.int (fX11_at 31 p1 h)))) (h1 := h) (okX11_at 31 rfl p1 h) (fun _ => rfl) mlX6_49 mtX11_at rfl (Nat.le_of_ble_eq_true rfl) rfl (Nat.le_of_ble_eq_true rfl) dX6_lean_10 ?_
  refine sim_aload_n 0 rfl dX6_lean_13 ?_
  refine sim_getR flX6_28 rfl rfl dX6_lean_14 ?_
  refine sim_iload_n 2 rfl dX6_lean_17 ?_
  refine sim_cS (As := [.ref 31, .int p2]) (st := [.int (fX11_at 31 p1 h), .int p1, .ref 31]) (r := (some (.int (fX11_at 31 p2 h)))) (h1 := h) (okX11_at 31 rfl p2 h) (fun _ => rfl) mlX6_49 mtX11_at rfl (Nat.le_of_ble_eq_true rfl) rfl (Nat.le_of_ble_eq_true rfl) dX6_lean_18 ?_
  refine sim_iconst (v := 1) (by decide) dX6_lean_21 ?_
  refine sim_iadd dX6_lean_22 ?_
  refine sim_mmax (gtbl_of 675 (by decide +kernel) rfl) (by first | decide | omega) (Nat.le_of_ble_eq_true rfl) dX6_lean_23 ?_
  refine sim_cS (As := [.ref 31, .int p1, .int (jmax (fX11_at 31 p1 h) ((fX11_at 31 p2 h) + (1 : Int32)))]) (st := []) (r := none) (h1 := (fX11_put 31 p1 (jmax (fX11_at 31 p1 h) ((fX11_at 31 p2 h) + (1 : Int32))) h)) (okX11_put 31 rfl p1 (jmax (fX11_at 31 p1 h) ((fX11_at 31 p2 h) + (1 : Int32))) h) (fun _ => rfl) mlX6_41 mtX11_put rfl (Nat.le_of_ble_eq_true rfl) rfl (Nat.le_of_ble_eq_true rfl) dX6_lean_26 ?_
  refine sim_nmH (fun g1 => ?_)
  refine sim_aload_n 0 rfl dX6_lean_29 ?_
  refine sim_getR flX6_34 rfl rfl dX6_lean_30 ?_
  refine sim_iload_n 1 rfl dX6_lean_33 ?_
  refine sim_aload_n 0 rfl dX6_lean_34 ?_
  refine sim_getR flX6_34 rfl rfl dX6_lean_35 ?_
  refine sim_iload_n 1 rfl dX6_lean_38 ?_
  refine sim_cS (As := [.ref 33, .int p1]) (st := [.int p1, .ref 33]) (r := (some (.int (fX11_at 33 p1 g1)))) (h1 := g1) (okX11_at 33 rfl p1 g1) (fun _ => rfl) mlX6_49 mtX11_at rfl (Nat.le_of_ble_eq_true rfl) rfl (Nat.le_of_ble_eq_true rfl) dX6_lean_39 ?_
  refine sim_aload_n 0 rfl dX6_lean_42 ?_
  refine sim_getR flX6_34 rfl rfl dX6_lean_43 ?_
  refine sim_iload_n 2 rfl dX6_lean_46 ?_
  refine sim_cS (As := [.ref 33, .int p2]) (st := [.int (fX11_at 33 p1 g1), .int p1, .ref 33]) (r := (some (.int (fX11_at 33 p2 g1)))) (h1 := g1) (okX11_at 33 rfl p2 g1) (fun _ => rfl) mlX6_49 mtX11_at rfl (Nat.le_of_ble_eq_true rfl) rfl (Nat.le_of_ble_eq_true rfl) dX6_lean_47 ?_
  refine sim_ior dX6_lean_50 ?_
  refine sim_iload_n 2 rfl dX6_lean_51 ?_
  refine sim_cS (As := [.int p2]) (st := [.int ((fX11_at 33 p1 g1) ||| (fX11_at 33 p2 g1)), .int p1, .ref 33]) (r := (some (.int (fX11_bit p2 g1)))) (h1 := g1) (okX11_bit p2 g1) (fun _ => rfl) mlX6_59 mtX11_bit rfl (Nat.le_of_ble_eq_true rfl) rfl (Nat.le_of_ble_eq_true rfl) dX6_lean_52 ?_
  refine sim_ior dX6_lean_55 ?_
  refine sim_cS (As := [.ref 33, .int p1, .int (((fX11_at 33 p1 g1) ||| (fX11_at 33 p2 g1)) ||| (fX11_bit p2 g1))]) (st := []) (r := none) (h1 := (fX11_put 33 p1 (((fX11_at 33 p1 g1) ||| (fX11_at 33 p2 g1)) ||| (fX11_bit p2 g1)) g1)) (okX11_put 33 rfl p1 (((fX11_at 33 p1 g1) ||| (fX11_at 33 p2 g1)) ||| (fX11_bit p2 g1)) g1) (fun _ => rfl) mlX6_41 mtX11_put rfl (Nat.le_of_ble_eq_true rfl) rfl (Nat.le_of_ble_eq_true rfl) dX6_lean_56 ?_
  refine sim_nmH (fun g2 => ?_)
  refine sim_aload_n 0 rfl dX6_lean_59 ?_
  refine sim_getR flX6_31 rfl rfl dX6_lean_60 ?_
  refine sim_iload_n 2 rfl dX6_lean_63 ?_
  refine sim_aload_n 0 rfl dX6_lean_64 ?_
  refine sim_getR flX6_31 rfl rfl dX6_lean_65 ?_
  refine sim_iload_n 2 rfl dX6_lean_68 ?_
  refine sim_cS (As := [.ref 32, .int p2]) (st := [.int p2, .ref 32]) (r := (some (.int (fX11_at 32 p2 g2)))) (h1 := g2) (okX11_at 32 rfl p2 g2) (fun _ => rfl) mlX6_49 mtX11_at rfl (Nat.le_of_ble_eq_true rfl) rfl (Nat.le_of_ble_eq_true rfl) dX6_lean_69 ?_
  refine sim_iconst (v := 1) (by decide) dX6_lean_72 ?_
  refine sim_iadd dX6_lean_73 ?_
  refine sim_cS (As := [.ref 32, .int p2, .int ((fX11_at 32 p2 g2) + (1 : Int32))]) (st := []) (r := none) (h1 := (fX11_put 32 p2 ((fX11_at 32 p2 g2) + (1 : Int32)) g2)) (okX11_put 32 rfl p2 ((fX11_at 32 p2 g2) + (1 : Int32)) g2) (fun _ => rfl) mlX6_41 mtX11_put rfl (Nat.le_of_ble_eq_true rfl) rfl (Nat.le_of_ble_eq_true rfl) dX6_lean_74 ?_
  refine sim_nmH (fun g3 => ?_)
  exact sim_vret rfl rfl dX6_lean_77
theorem okX6_lean (p1 : Int32) (p2 : Int32) (h : AH) : Ok yX6_lean cX6_lean 3 none 2 [.ref 26, .int p1, .int p2] h (none, fX6_lean p1 p2 h) := ok_of (sX6_lean p1 p2 h) rfl (by decide +kernel) (Nat.le_of_ble_eq_true rfl)
def fX6_add (p1 : Int32) (p2 : Int32) (p3 : Int32) (p4 : Int32) (h : AH) : AH :=
  if (h.1 26 0) < (20 : Int32) then
    letT (sI h 26 0 ((h.1 26 0) + (1 : Int32))) (fun g2 =>
    letT (fX11_put 27 (h.1 26 0) p1 g2) (fun g3 =>
    letT (fX11_put 28 (h.1 26 0) p2 g3) (fun g4 =>
    letT (fX11_put 29 (h.1 26 0) p3 g4) (fun g5 =>
    letT (fX11_put 30 (h.1 26 0) p4 g5) (fun g6 =>
    letT (fX11_put 31 (h.1 26 0) (0 : Int32) g6) (fun g7 =>
    letT (fX11_put 32 (h.1 26 0) (0 : Int32) g7) (fun g8 =>
    letT (fX11_put 33 (h.1 26 0) (0 : Int32) g8) (fun g9 =>
    letT (fun (g10 : AH) =>
      if p2 < (3 : Int32) then
        g10
      else
        if p4 = p3 then
          g10
        else
          letT (fX6_lean (h.1 26 0) p4 g10) (fun g14 =>
          g14)) (fun J11 =>
    if p2 = 0 then
      J11 g9
    else
      letT (fX6_lean (h.1 26 0) p3 g9) (fun g16 =>
      J11 g16))))))))))
  else
    h
theorem sX6_add (p1 : Int32) (p2 : Int32) (p3 : Int32) (p4 : Int32) (h : AH) : Sim RX6 cX6_add 6 none 3 (tV) (fX6_add p1 p2 p3 p4 h) 0 [(0, .ref 26), (1, .int p1), (2, .int p2), (3, .int p3), (4, .int p4)] [] h := by
  unfold fX6_add
  refine sim_aload_n 0 rfl dX6_add_0 ?_
  refine sim_getI flX6_9 rfl rfl dX6_add_1 ?_
  refine sim_bipush (v := 20) (by decide) dX6_add_4 ?_
  refine sim_icmp_lt (tgt := 10) dX6_add_6 (by decide) (fun c1 => ?_) (fun c1 => ?_)
  · refine sim_aload_n 0 rfl dX6_add_10 ?_
    refine sim_getI flX6_9 rfl rfl dX6_add_11 ?_
    refine sim_istore (L' := [(5, .int (h.1 26 0)), (0, .ref 26), (1, .int p1), (2, .int p2), (3, .int p3), (4, .int p4)]) rfl (by decide) dX6_add_14 ?_
    refine sim_aload_n 1 rfl dX6_add_16 ?_
    refine sim_dup dX6_add_17 rfl ?_
    refine sim_getI flX6_9 rfl rfl dX6_add_18 ?_
    refine sim_iconst (v := 1) (by decide) dX6_add_21 ?_
    refine sim_iadd dX6_add_22 ?_
    refine sim_putI fpX6_9 rfl rfl rfl rfl dX6_add_23 ?_
    refine sim_nmH (fun g2 => ?_)
    refine sim_aload_n 1 rfl dX6_add_26 ?_
    refine sim_getR flX6_15 rfl rfl dX6_add_27 ?_
    refine sim_iload 0 rfl dX6_add_30 ?_
    refine sim_iload_n 2 rfl dX6_add_32 ?_
    refine sim_cS (As := [.ref 27, .int (h.1 26 0), .int p1]) (st := []) (r := none) (h1 := (fX11_put 27 (h.1 26 0) p1 g2)) (okX11_put 27 rfl (h.1 26 0) p1 g2) (fun _ => rfl) mlX6_41 mtX11_put rfl (Nat.le_of_ble_eq_true rfl) rfl (Nat.le_of_ble_eq_true rfl) dX6_add_33 ?_
    refine sim_nmH (fun g3 => ?_)
    refine sim_aload_n 1 rfl dX6_add_36 ?_
    refine sim_getR flX6_19 rfl rfl dX6_add_37 ?_
    refine sim_iload 0 rfl dX6_add_40 ?_
    refine sim_iload_n 3 rfl dX6_add_42 ?_
    refine sim_cS (As := [.ref 28, .int (h.1 26 0), .int p2]) (st := []) (r := none) (h1 := (fX11_put 28 (h.1 26 0) p2 g3)) (okX11_put 28 rfl (h.1 26 0) p2 g3) (fun _ => rfl) mlX6_41 mtX11_put rfl (Nat.le_of_ble_eq_true rfl) rfl (Nat.le_of_ble_eq_true rfl) dX6_add_43 ?_
    refine sim_nmH (fun g4 => ?_)
    refine sim_aload_n 1 rfl dX6_add_46 ?_
    refine sim_getR flX6_22 rfl rfl dX6_add_47 ?_
    refine sim_iload 0 rfl dX6_add_50 ?_
    refine sim_iload_n 4 rfl dX6_add_52 ?_
    refine sim_cS (As := [.ref 29, .int (h.1 26 0), .int p3]) (st := []) (r := none) (h1 := (fX11_put 29 (h.1 26 0) p3 g4)) (okX11_put 29 rfl (h.1 26 0) p3 g4) (fun _ => rfl) mlX6_41 mtX11_put rfl (Nat.le_of_ble_eq_true rfl) rfl (Nat.le_of_ble_eq_true rfl) dX6_add_53 ?_
    refine sim_nmH (fun g5 => ?_)
    refine sim_aload_n 1 rfl dX6_add_56 ?_
    refine sim_getR flX6_25 rfl rfl dX6_add_57 ?_
    refine sim_iload 0 rfl dX6_add_60 ?_
    refine sim_iload 5 rfl dX6_add_62 ?_
    refine sim_cS (As := [.ref 30, .int (h.1 26 0), .int p4]) (st := []) (r := none) (h1 := (fX11_put 30 (h.1 26 0) p4 g5)) (okX11_put 30 rfl (h.1 26 0) p4 g5) (fun _ => rfl) mlX6_41 mtX11_put rfl (Nat.le_of_ble_eq_true rfl) rfl (Nat.le_of_ble_eq_true rfl) dX6_add_64 ?_
    refine sim_nmH (fun g6 => ?_)
    refine sim_aload_n 1 rfl dX6_add_67 ?_
    refine sim_getR flX6_28 rfl rfl dX6_add_68 ?_
    refine sim_iload 0 rfl dX6_add_71 ?_
    refine sim_iconst (v := 0) (by decide) dX6_add_73 ?_
    refine sim_cS (As := [.ref 31, .int (h.1 26 0), .int (0 : Int32)]) (st := []) (r := none) (h1 := (fX11_put 31 (h.1 26 0) (0 : Int32) g6)) (okX11_put 31 rfl (h.1 26 0) (0 : Int32) g6) (fun _ => rfl) mlX6_41 mtX11_put rfl (Nat.le_of_ble_eq_true rfl) rfl (Nat.le_of_ble_eq_true rfl) dX6_add_74 ?_
    refine sim_nmH (fun g7 => ?_)
    refine sim_aload_n 1 rfl dX6_add_77 ?_
    refine sim_getR flX6_31 rfl rfl dX6_add_78 ?_
    refine sim_iload 0 rfl dX6_add_81 ?_
    refine sim_iconst (v := 0) (by decide) dX6_add_83 ?_
    refine sim_cS (As := [.ref 32, .int (h.1 26 0), .int (0 : Int32)]) (st := []) (r := none) (h1 := (fX11_put 32 (h.1 26 0) (0 : Int32) g7)) (okX11_put 32 rfl (h.1 26 0) (0 : Int32) g7) (fun _ => rfl) mlX6_41 mtX11_put rfl (Nat.le_of_ble_eq_true rfl) rfl (Nat.le_of_ble_eq_true rfl) dX6_add_84 ?_
    refine sim_nmH (fun g8 => ?_)
    refine sim_aload_n 1 rfl dX6_add_87 ?_
    refine sim_getR flX6_34 rfl rfl dX6_add_88 ?_
    refine sim_iload 0 rfl dX6_add_91 ?_
    refine sim_iconst (v := 0) (by decide) dX6_add_93 ?_
    refine sim_cS (As := [.ref 33, .int (h.1 26 0), .int (0 : Int32)]) (st := []) (r := none) (h1 := (fX11_put 33 (h.1 26 0) (0 : Int32) g8)) (okX11_put 33 rfl (h.1 26 0) (0 : Int32) g8) (fun _ => rfl) mlX6_41 mtX11_put rfl (Nat.le_of_ble_eq_true rfl) rfl (Nat.le_of_ble_eq_true rfl) dX6_add_94 ?_
    refine sim_nmH (fun g9 => ?_)
    refine sim_iload_n 3 rfl dX6_add_97 ?_
    refine sim_letJ (fun J11 => ∀ (g10 : AH), Sim RX6 cX6_add 6 none 3 (tV) (J11 g10) 108 [(0, .ref 26), (2, .int p2), (3, .int p3), (4, .int p4), (5, .int (h.1 26 0))] [] g10) (fun g10 => ?_) (fun J11 hJ11 => ?_)
    · refine sim_iload_n 1 rfl dX6_add_108 ?_
      refine sim_iconst (v := 3) (by decide) dX6_add_109 ?_
      refine sim_icmp_lt (tgt := 127) dX6_add_110 (by decide) (fun c12 => ?_) (fun c12 => ?_)
      · exact sim_vret rfl rfl dX6_add_127
      · refine sim_iload 3 rfl dX6_add_113 ?_
        refine sim_iload_n 2 rfl dX6_add_115 ?_
        refine sim_icmp_eq (tgt := 127) dX6_add_116 (by decide) (fun c13 => ?_) (fun c13 => ?_)
        · exact sim_vret rfl rfl dX6_add_127
        · refine sim_aload_n 0 rfl dX6_add_119 ?_
          refine sim_iload 4 rfl dX6_add_120 ?_
          refine sim_iload 3 rfl dX6_add_122 ?_
          refine sim_cV (As := [.int (h.1 26 0), .int p4]) (st := []) (r := none) (h1 := (fX6_lean (h.1 26 0) p4 g10)) (okX6_lean (h.1 26 0) p4 g10) (fun _ => rfl) mlX6_45 mtX6_lean rfl rfl rfl rfl (Nat.le_of_ble_eq_true rfl) rfl (Nat.le_of_ble_eq_true rfl) dX6_add_124 ?_
          refine sim_nmH (fun g14 => ?_)
          exact sim_vret rfl rfl dX6_add_127
    refine sim_if_eq (tgt := 108) dX6_add_98 (by decide) (fun c15 => ?_) (fun c15 => ?_)
    · refine sim_sub [1, 3, 4, 5, 0] rfl ?_
      exact hJ11 g9
    · refine sim_aload_n 1 rfl dX6_add_101 ?_
      refine sim_iload 0 rfl dX6_add_102 ?_
      refine sim_iload_n 4 rfl dX6_add_104 ?_
      refine sim_cV (As := [.int (h.1 26 0), .int p3]) (st := []) (r := none) (h1 := (fX6_lean (h.1 26 0) p3 g9)) (okX6_lean (h.1 26 0) p3 g9) (fun _ => rfl) mlX6_45 mtX6_lean rfl rfl rfl rfl (Nat.le_of_ble_eq_true rfl) rfl (Nat.le_of_ble_eq_true rfl) dX6_add_105 ?_
      refine sim_nmH (fun g16 => ?_)
      refine sim_sub [1, 3, 4, 5, 0] rfl ?_
      exact hJ11 g16
  · exact sim_vret rfl rfl dX6_add_9
theorem okX6_add (p1 : Int32) (p2 : Int32) (p3 : Int32) (p4 : Int32) (h : AH) : Ok yX6_add cX6_add 6 none 3 [.ref 26, .int p1, .int p2, .int p3, .int p4] h (none, fX6_add p1 p2 p3 p4 h) := ok_of (sX6_add p1 p2 p3 p4 h) rfl (by decide +kernel) (Nat.le_of_ble_eq_true rfl)
def fX7_readLine (p1 : Int32) (p2 : Int32) (h : AH) : AH :=
  letT (fun (g1 : AH) =>
    letT (fX7_number p2 (3 : Int32) g1) (fun b3 =>
    letT (fX10_expect (61 : Int32) b3.2) (fun g4 =>
    letT (fX10_among 6 g4) (fun v5 =>
    letT (fun (g6 : AH) =>
      letT (fX10_step g6) (fun g8 =>
      letT (fun (w9 : Int32) (g10 : AH) =>
        letT (fun (w12 : Int32) (g13 : AH) =>
          if (fX10_isSound g13) = 0 then
            g13
          else
            letT (fX6_add b3.1 v5 w9 w12 g13) (fun g16 =>
            g16)) (fun J14 =>
        if v5 < (3 : Int32) then
          J14 (-2 : Int32) g10
        else
          letT (fX10_expect (44 : Int32) g10) (fun g18 =>
          letT (fX7_number p1 (6 : Int32) g18) (fun b19 =>
          J14 b19.1 b19.2)))) (fun J11 =>
      if v5 = 0 then
        letT (fX7_digit g8) (fun b22 =>
        J11 b22.1 b22.2)
      else
        letT (fX7_number p1 (6 : Int32) g8) (fun b21 =>
        J11 b21.1 b21.2)))) (fun J7 =>
    if v5 < 0 then
      letT (fX10_failHere g4) (fun g24 =>
      J7 g24)
    else
      J7 g4))))) (fun J2 =>
  if (fX10_isAtDigit h) = 0 then
    J2 h
  else
    if p1 = (20 : Int32) then
      letT (fX10_fail (4 : Int32) (h.1 1 2) h) (fun g27 =>
      J2 g27)
    else
      J2 h)
theorem sX7_readLine (p1 : Int32) (p2 : Int32) (h : AH) : Sim RX7 cX7_readLine 7 none 13 (tV) (fX7_readLine p1 p2 h) 0 [(0, .ref 25), (1, .int p1), (2, .int p2)] [] h := by
  unfold fX7_readLine
  refine sim_aload_n 0 rfl dX7_readLine_0 ?_
  refine sim_getR flX7_18 rfl rfl dX7_readLine_1 ?_
  refine sim_cV (As := []) (st := []) (r := (some (.int (fX10_isAtDigit h)))) (h1 := h) (okX10_isAtDigit h) (fun _ => rfl) mlX7_53 mtX10_isAtDigit rfl rfl rfl rfl (Nat.le_of_ble_eq_true rfl) rfl (Nat.le_of_ble_eq_true rfl) dX7_readLine_4 ?_
  refine sim_letJ (fun J2 => ∀ (g1 : AH), Sim RX7 cX7_readLine 7 none 13 (tV) (J2 g1) 31 [(0, .ref 25), (1, .int p1), (2, .int p2)] [] g1) (fun g1 => ?_) (fun J2 hJ2 => ?_)
  · refine sim_aload_n 0 rfl dX7_readLine_31 ?_
    refine sim_iload_n 2 rfl dX7_readLine_32 ?_
    refine sim_iconst (v := 3) (by decide) dX7_readLine_33 ?_
    refine sim_cV (As := [.int p2, .int (3 : Int32)]) (st := []) (r := (some (.int ((fX7_number p2 (3 : Int32) g1).1)))) (h1 := (fX7_number p2 (3 : Int32) g1).2) (okX7_number p2 (3 : Int32) g1) (fun _ => rfl) mlX7_62 mtX7_number rfl rfl rfl rfl (Nat.le_of_ble_eq_true rfl) rfl (Nat.le_of_ble_eq_true rfl) dX7_readLine_34 ?_
    refine sim_nmP (fun b3 => ?_)
    refine sim_istore_n (L' := [(3, .int b3.1), (0, .ref 25), (1, .int p1), (2, .int p2)]) rfl (by decide) dX7_readLine_37 ?_
    refine sim_aload_n 1 rfl dX7_readLine_38 ?_
    refine sim_getR flX7_18 rfl rfl dX7_readLine_39 ?_
    refine sim_bipush (v := 61) (by decide) dX7_readLine_42 ?_
    refine sim_cV (As := [.int (61 : Int32)]) (st := []) (r := none) (h1 := (fX10_expect (61 : Int32) b3.2)) (okX10_expect (61 : Int32) b3.2) (fun _ => rfl) mlX7_46 mtX10_expect rfl rfl rfl rfl (Nat.le_of_ble_eq_true rfl) rfl (Nat.le_of_ble_eq_true rfl) dX7_readLine_44 ?_
    refine sim_nmH (fun g4 => ?_)
    refine sim_aload_n 1 rfl dX7_readLine_47 ?_
    refine sim_getR flX7_18 rfl rfl dX7_readLine_48 ?_
    refine sim_ldcS 6 (by decide) rfl rfl dX7_readLine_51 ?_
    refine sim_cV (As := [.ref 206]) (st := []) (r := (some (.int (fX10_among 6 g4)))) (h1 := g4) (okX10_among 6 (by decide) g4) (fun _ => rfl) mlX7_68 mtX10_among rfl rfl rfl rfl (Nat.le_of_ble_eq_true rfl) rfl (Nat.le_of_ble_eq_true rfl) dX7_readLine_53 ?_
    refine sim_nmI (fun v5 => ?_)
    refine sim_istore (L' := [(4, .int v5), (3, .int b3.1), (0, .ref 25), (1, .int p1), (2, .int p2)]) rfl (by decide) dX7_readLine_56 ?_
    refine sim_iload 0 rfl dX7_readLine_58 ?_
    refine sim_letJ (fun J7 => ∀ (g6 : AH), Sim RX7 cX7_readLine 7 none 13 (tV) (J7 g6) 70 [(0, .ref 25), (1, .int p1), (3, .int b3.1), (4, .int v5)] [] g6) (fun g6 => ?_) (fun J7 hJ7 => ?_)
    · refine sim_aload_n 0 rfl dX7_readLine_70 ?_
      refine sim_getR flX7_18 rfl rfl dX7_readLine_71 ?_
      refine sim_cV (As := []) (st := []) (r := none) (h1 := (fX10_step g6)) (okX10_step g6) (fun _ => rfl) mlX7_75 mtX10_step rfl rfl rfl rfl (Nat.le_of_ble_eq_true rfl) rfl (Nat.le_of_ble_eq_true rfl) dX7_readLine_74 ?_
      refine sim_nmH (fun g8 => ?_)
      refine sim_iload 3 rfl dX7_readLine_77 ?_
      refine sim_letJ (fun J11 => ∀ (w9 : Int32) (g10 : AH), Sim RX7 cX7_readLine 7 none 13 (tV) (J11 w9 g10) 96 [(0, .ref 25), (1, .int p1), (3, .int b3.1), (4, .int v5)] [.int w9] g10) (fun w9 g10 => ?_) (fun J11 hJ11 => ?_)
      · refine sim_istore (L' := [(5, .int w9), (0, .ref 25), (1, .int p1), (3, .int b3.1), (4, .int v5)]) rfl (by decide) dX7_readLine_96 ?_
        refine sim_bipush (v := -2) (by decide) dX7_readLine_98 ?_
        refine sim_istore (L' := [(6, .int (-2 : Int32)), (5, .int w9), (0, .ref 25), (1, .int p1), (3, .int b3.1), (4, .int v5)]) rfl (by decide) dX7_readLine_100 ?_
        refine sim_iload 5 rfl dX7_readLine_102 ?_
        refine sim_iconst (v := 3) (by decide) dX7_readLine_104 ?_
        refine sim_letJ (fun J14 => ∀ (w12 : Int32) (g13 : AH), Sim RX7 cX7_readLine 7 none 13 (tV) (J14 w12 g13) 126 [(0, .ref 25), (3, .int b3.1), (4, .int v5), (5, .int w9), (6, .int w12)] [] g13) (fun w12 g13 => ?_) (fun J14 hJ14 => ?_)
        · refine sim_aload_n 0 rfl dX7_readLine_126 ?_
          refine sim_getR flX7_18 rfl rfl dX7_readLine_127 ?_
          refine sim_cV (As := []) (st := []) (r := (some (.int (fX10_isSound g13)))) (h1 := g13) (okX10_isSound g13) (fun _ => rfl) mlX7_35 mtX10_isSound rfl rfl rfl rfl (Nat.le_of_ble_eq_true rfl) rfl (Nat.le_of_ble_eq_true rfl) dX7_readLine_130 ?_
          refine sim_if_eq (tgt := 150) dX7_readLine_133 (by decide) (fun c15 => ?_) (fun c15 => ?_)
          · exact sim_vret rfl rfl dX7_readLine_150
          · refine sim_aload_n 0 rfl dX7_readLine_136 ?_
            refine sim_getR flX7_12 rfl rfl dX7_readLine_137 ?_
            refine sim_iload_n 1 rfl dX7_readLine_140 ?_
            refine sim_iload 2 rfl dX7_readLine_141 ?_
            refine sim_iload 3 rfl dX7_readLine_143 ?_
            refine sim_iload 4 rfl dX7_readLine_145 ?_
            refine sim_cV (As := [.int b3.1, .int v5, .int w9, .int w12]) (st := []) (r := none) (h1 := (fX6_add b3.1 v5 w9 w12 g13)) (okX6_add b3.1 v5 w9 w12 g13) (fun _ => rfl) mlX7_82 mtX6_add rfl rfl rfl rfl (Nat.le_of_ble_eq_true rfl) rfl (Nat.le_of_ble_eq_true rfl) dX7_readLine_147 ?_
            refine sim_nmH (fun g16 => ?_)
            exact sim_vret rfl rfl dX7_readLine_150
        refine sim_icmp_lt (tgt := 126) dX7_readLine_105 (by decide) (fun c17 => ?_) (fun c17 => ?_)
        · refine sim_sub [2, 4, 5, 1, 0] rfl ?_
          exact hJ14 (-2 : Int32) g10
        · refine sim_aload_n 2 rfl dX7_readLine_108 ?_
          refine sim_getR flX7_18 rfl rfl dX7_readLine_109 ?_
          refine sim_bipush (v := 44) (by decide) dX7_readLine_112 ?_
          refine sim_cV (As := [.int (44 : Int32)]) (st := []) (r := none) (h1 := (fX10_expect (44 : Int32) g10)) (okX10_expect (44 : Int32) g10) (fun _ => rfl) mlX7_46 mtX10_expect rfl rfl rfl rfl (Nat.le_of_ble_eq_true rfl) rfl (Nat.le_of_ble_eq_true rfl) dX7_readLine_114 ?_
          refine sim_nmH (fun g18 => ?_)
          refine sim_aload_n 2 rfl dX7_readLine_117 ?_
          refine sim_iload_n 3 rfl dX7_readLine_118 ?_
          refine sim_bipush (v := 6) (by decide) dX7_readLine_119 ?_
          refine sim_cV (As := [.int p1, .int (6 : Int32)]) (st := []) (r := (some (.int ((fX7_number p1 (6 : Int32) g18).1)))) (h1 := (fX7_number p1 (6 : Int32) g18).2) (okX7_number p1 (6 : Int32) g18) (fun _ => rfl) mlX7_62 mtX7_number rfl rfl rfl rfl (Nat.le_of_ble_eq_true rfl) rfl (Nat.le_of_ble_eq_true rfl) dX7_readLine_121 ?_
          refine sim_nmP (fun b19 => ?_)
          refine sim_istore (L' := [(6, .int b19.1), (5, .int w9), (0, .ref 25), (1, .int p1), (3, .int b3.1), (4, .int v5)]) rfl (by decide) dX7_readLine_124 ?_
          refine sim_sub [2, 4, 5, 1, 0] rfl ?_
          exact hJ14 b19.1 b19.2
      refine sim_if_ne (tgt := 89) dX7_readLine_79 (by decide) (fun c20 => ?_) (fun c20 => ?_)
      · refine sim_aload_n 0 rfl dX7_readLine_89 ?_
        refine sim_iload_n 1 rfl dX7_readLine_90 ?_
        refine sim_bipush (v := 6) (by decide) dX7_readLine_91 ?_
        refine sim_cV (As := [.int p1, .int (6 : Int32)]) (st := []) (r := (some (.int ((fX7_number p1 (6 : Int32) g8).1)))) (h1 := (fX7_number p1 (6 : Int32) g8).2) (okX7_number p1 (6 : Int32) g8) (fun _ => rfl) mlX7_62 mtX7_number rfl rfl rfl rfl (Nat.le_of_ble_eq_true rfl) rfl (Nat.le_of_ble_eq_true rfl) dX7_readLine_93 ?_
        refine sim_nmP (fun b21 => ?_)
        exact hJ11 b21.1 b21.2
      · refine sim_aload_n 0 rfl dX7_readLine_82 ?_
        refine sim_cV (As := []) (st := []) (r := (some (.int ((fX7_digit g8).1)))) (h1 := (fX7_digit g8).2) (okX7_digit g8) (fun _ => rfl) mlX7_78 mtX7_digit rfl rfl rfl rfl (Nat.le_of_ble_eq_true rfl) rfl (Nat.le_of_ble_eq_true rfl) dX7_readLine_83 ?_
        refine sim_nmP (fun b22 => ?_)
        refine sim_goto (tgt := 96) dX7_readLine_86 (by decide) ?_
        exact hJ11 b22.1 b22.2
    refine sim_if_ge (tgt := 70) dX7_readLine_60 (by decide) (fun c23 => ?_) (fun c23 => ?_)
    · refine sim_sub [2, 3, 1, 0] rfl ?_
      exact hJ7 g4
    · refine sim_aload_n 2 rfl dX7_readLine_63 ?_
      refine sim_getR flX7_18 rfl rfl dX7_readLine_64 ?_
      refine sim_cV (As := []) (st := []) (r := none) (h1 := (fX10_failHere g4)) (okX10_failHere g4) (fun _ => rfl) mlX7_72 mtX10_failHere rfl rfl rfl rfl (Nat.le_of_ble_eq_true rfl) rfl (Nat.le_of_ble_eq_true rfl) dX7_readLine_67 ?_
      refine sim_nmH (fun g24 => ?_)
      refine sim_sub [2, 3, 1, 0] rfl ?_
      exact hJ7 g24
  refine sim_if_eq (tgt := 31) dX7_readLine_7 (by decide) (fun c25 => ?_) (fun c25 => ?_)
  · exact hJ2 h
  · refine sim_iload_n 1 rfl dX7_readLine_10 ?_
    refine sim_bipush (v := 20) (by decide) dX7_readLine_11 ?_
    refine sim_icmp_ne (tgt := 31) dX7_readLine_13 (by decide) (fun c26 => ?_) (fun c26 => ?_)
    · exact hJ2 h
    · refine sim_aload_n 0 rfl dX7_readLine_16 ?_
      refine sim_getR flX7_18 rfl rfl dX7_readLine_17 ?_
      refine sim_iconst (v := 4) (by decide) dX7_readLine_20 ?_
      refine sim_aload_n 0 rfl dX7_readLine_21 ?_
      refine sim_getR flX7_18 rfl rfl dX7_readLine_22 ?_
      refine sim_getI flX7_56 rfl rfl dX7_readLine_25 ?_
      refine sim_cV (As := [.int (4 : Int32), .int (h.1 1 2)]) (st := []) (r := none) (h1 := (fX10_fail (4 : Int32) (h.1 1 2) h)) (okX10_fail (4 : Int32) (h.1 1 2) h) (fun _ => rfl) mlX7_59 mtX10_fail rfl rfl rfl rfl (Nat.le_of_ble_eq_true rfl) rfl (Nat.le_of_ble_eq_true rfl) dX7_readLine_28 ?_
      refine sim_nmH (fun g27 => ?_)
      exact hJ2 g27
theorem okX7_readLine (p1 : Int32) (p2 : Int32) (h : AH) : Ok yX7_readLine cX7_readLine 7 none 13 [.ref 25, .int p1, .int p2] h (none, fX7_readLine p1 p2 h) := ok_of (sX7_readLine p1 p2 h) rfl (by decide +kernel) (Nat.le_of_ble_eq_true rfl)
def fX10_isAtEnd (h : AH) : Int32 :=
  if (h.1 1 2) < (h.1 1 5) then
    (0 : Int32)
  else
    (1 : Int32)
theorem sX10_isAtEnd (h : AH) : Sim RX10 cX10_isAtEnd 1 (some .boolean) 1 (tI h) (fX10_isAtEnd h) 0 [(0, .ref 1)] [] h := by
  unfold fX10_isAtEnd
  refine sim_aload_n 0 rfl dX10_isAtEnd_0 ?_
  refine sim_getI flX10_19 rfl rfl dX10_isAtEnd_1 ?_
  refine sim_aload_n 0 rfl dX10_isAtEnd_4 ?_
  refine sim_getI flX10_28 rfl rfl dX10_isAtEnd_5 ?_
  refine sim_icmp_lt (tgt := 15) dX10_isAtEnd_8 (by decide) (fun c1 => ?_) (fun c1 => ?_)
  · refine sim_iconst (v := 0) (by decide) dX10_isAtEnd_15 ?_
    exact sim_zret rfl rfl rfl dX10_isAtEnd_16
  · refine sim_iconst (v := 1) (by decide) dX10_isAtEnd_11 ?_
    refine sim_goto (tgt := 16) dX10_isAtEnd_12 (by decide) ?_
    exact sim_zret rfl rfl rfl dX10_isAtEnd_16
theorem okX10_isAtEnd (h : AH) : Ok yX10_isAtEnd cX10_isAtEnd 1 (some .boolean) 1 [.ref 1] h (some (.int (fX10_isAtEnd h)), h) := ok_of (sX10_isAtEnd h) rfl (by decide +kernel) (Nat.le_of_ble_eq_true rfl)
def fX7_readProof_l17b (rec : Int32 → AH → Option (Int32 × AH)) (K76 : AH → Option (Int32 × AH)) (K91 : AH → Option (Int32 × AH)) (x2 : Int32) (x3 : Int32) (h : AH) : Option (Int32 × AH) :=
  if (20 : Int32) < x3 then
    K91 h
  else
    letT (fX7_readLine x3 x2 h) (fun g4 =>
    letT (letT (fX10_expect (59 : Int32) g4) (fun g6 =>
      if (fX10_isSound g6) = 0 then
        K76 g6
      else
        rec (x3 + 1) g6)) (fun J5 =>
    if (fX10_isSound g4) = 0 then
      J5
    else
      if (fX10_isAtEnd g4) = 0 then
        J5
      else
        some (g4.1 26 0, g4)))
def fX7_readProof_l17 (K76 : AH → Option (Int32 × AH)) (K91 : AH → Option (Int32 × AH)) (x2 : Int32) : Nat → Int32 → AH → Option (Int32 × AH)
  | 0, _, _ => none
  | n + 1, x3, h => fX7_readProof_l17b (fX7_readProof_l17 K76 K91 x2 n) K76 K91 x2 x3 h
theorem sX7_readProof_l17b {rec : Int32 → AH → Option (Int32 × AH)} {K76 : AH → Option (Int32 × AH)} {K91 : AH → Option (Int32 × AH)} {x2 : Int32} (hR : ∀ (x3 : Int32) (h : AH), Sim RX7 cX7_readProof 4 (some .int) 14 (Option.map oI) (rec x3 h) 17 [(0, .ref 25), (2, .int x2), (3, .int x3)] [] h) (hK76 : ∀ (g : AH), Sim RX7 cX7_readProof 4 (some .int) 14 (Option.map oI) (K76 g) 76 [(0, .ref 25)] [] g) (hK91 : ∀ (g : AH), Sim RX7 cX7_readProof 4 (some .int) 14 (Option.map oI) (K91 g) 91 [(0, .ref 25)] [] g) : ∀ (x3 : Int32) (h : AH), Sim RX7 cX7_readProof 4 (some .int) 14 (Option.map oI) (fX7_readProof_l17b rec K76 K91 x2 x3 h) 17 [(0, .ref 25), (2, .int x2), (3, .int x3)] [] h := by
  intro x3 h
  unfold fX7_readProof_l17b
  refine sim_iload_n 2 rfl dX7_readProof_17 ?_
  refine sim_bipush (v := 20) (by decide) dX7_readProof_18 ?_
  refine sim_icmp_gt (tgt := 91) dX7_readProof_20 (by decide) (fun c3 => ?_) (fun c3 => ?_)
  · refine sim_sub [0] rfl ?_
    exact hK91 h
  · refine sim_aload_n 0 rfl dX7_readProof_23 ?_
    refine sim_iload_n 2 rfl dX7_readProof_24 ?_
    refine sim_iload_n 1 rfl dX7_readProof_25 ?_
    refine sim_cV (As := [.int x3, .int x2]) (st := []) (r := none) (h1 := (fX7_readLine x3 x2 h)) (okX7_readLine x3 x2 h) (fun _ => rfl) mlX7_31 mtX7_readLine rfl rfl rfl rfl (Nat.le_of_ble_eq_true rfl) rfl (Nat.le_of_ble_eq_true rfl) dX7_readProof_26 ?_
    refine sim_nmH (fun g4 => ?_)
    refine sim_aload_n 0 rfl dX7_readProof_29 ?_
    refine sim_getR flX7_18 rfl rfl dX7_readProof_30 ?_
    refine sim_cV (As := []) (st := []) (r := (some (.int (fX10_isSound g4)))) (h1 := g4) (okX10_isSound g4) (fun _ => rfl) mlX7_35 mtX10_isSound rfl rfl rfl rfl (Nat.le_of_ble_eq_true rfl) rfl (Nat.le_of_ble_eq_true rfl) dX7_readProof_33 ?_
    refine sim_letJ (fun J5 => Sim RX7 cX7_readProof 4 (some .int) 14 (Option.map oI) (J5) 57 [(0, .ref 25), (2, .int x2), (3, .int x3)] [] g4) (?_) (fun J5 hJ5 => ?_)
    · refine sim_aload_n 0 rfl dX7_readProof_57 ?_
      refine sim_getR flX7_18 rfl rfl dX7_readProof_58 ?_
      refine sim_bipush (v := 59) (by decide) dX7_readProof_61 ?_
      refine sim_cV (As := [.int (59 : Int32)]) (st := []) (r := none) (h1 := (fX10_expect (59 : Int32) g4)) (okX10_expect (59 : Int32) g4) (fun _ => rfl) mlX7_46 mtX10_expect rfl rfl rfl rfl (Nat.le_of_ble_eq_true rfl) rfl (Nat.le_of_ble_eq_true rfl) dX7_readProof_63 ?_
      refine sim_nmH (fun g6 => ?_)
      refine sim_aload_n 0 rfl dX7_readProof_66 ?_
      refine sim_getR flX7_18 rfl rfl dX7_readProof_67 ?_
      refine sim_cV (As := []) (st := []) (r := (some (.int (fX10_isSound g6)))) (h1 := g6) (okX10_isSound g6) (fun _ => rfl) mlX7_35 mtX10_isSound rfl rfl rfl rfl (Nat.le_of_ble_eq_true rfl) rfl (Nat.le_of_ble_eq_true rfl) dX7_readProof_70 ?_
      refine sim_if_ne (tgt := 85) dX7_readProof_73 (by decide) (fun c7 => ?_) (fun c7 => ?_)
      · refine sim_iinc (v := x3 + 1) (L' := [(3, .int (x3 + 1)), (0, .ref 25), (2, .int x2)]) 2 rfl rfl rfl (by decide) dX7_readProof_85 ?_
        refine sim_goto (tgt := 17) dX7_readProof_88 (by decide) ?_
        refine sim_sub [1, 2, 0] rfl ?_
        exact hR (x3 + 1) g6
      · refine sim_sub [0] rfl ?_
        exact hK76 g6
    refine sim_if_eq (tgt := 57) dX7_readProof_36 (by decide) (fun c8 => ?_) (fun c8 => ?_)
    · exact hJ5
    · refine sim_aload_n 0 rfl dX7_readProof_39 ?_
      refine sim_getR flX7_18 rfl rfl dX7_readProof_40 ?_
      refine sim_cV (As := []) (st := []) (r := (some (.int (fX10_isAtEnd g4)))) (h1 := g4) (okX10_isAtEnd g4) (fun _ => rfl) mlX7_39 mtX10_isAtEnd rfl rfl rfl rfl (Nat.le_of_ble_eq_true rfl) rfl (Nat.le_of_ble_eq_true rfl) dX7_readProof_43 ?_
      refine sim_if_eq (tgt := 57) dX7_readProof_46 (by decide) (fun c9 => ?_) (fun c9 => ?_)
      · exact hJ5
      · refine sim_aload_n 0 rfl dX7_readProof_49 ?_
        refine sim_getR flX7_12 rfl rfl dX7_readProof_50 ?_
        refine sim_getI flX7_42 rfl rfl dX7_readProof_53 ?_
        exact sim_iret rfl rfl dX7_readProof_56
theorem sX7_readProof_l17 {K76 : AH → Option (Int32 × AH)} {K91 : AH → Option (Int32 × AH)} {x2 : Int32} (hK76 : ∀ (g : AH), Sim RX7 cX7_readProof 4 (some .int) 14 (Option.map oI) (K76 g) 76 [(0, .ref 25)] [] g) (hK91 : ∀ (g : AH), Sim RX7 cX7_readProof 4 (some .int) 14 (Option.map oI) (K91 g) 91 [(0, .ref 25)] [] g) : ∀ (n : Nat) (x3 : Int32) (h : AH), Sim RX7 cX7_readProof 4 (some .int) 14 (Option.map oI) (fX7_readProof_l17 K76 K91 x2 n x3 h) 17 [(0, .ref 25), (2, .int x2), (3, .int x3)] [] h := by
  intro n
  induction n with
  | zero => intro x3 h; exact sim_none
  | succ n ih => intro x3 h; exact sX7_readProof_l17b ih hK76 hK91 x3 h
def fX7_readProof (p1 : Int32) (p2 : Int32) (h : AH) : Option (Int32 × AH) :=
  letT (fX10_beginText p1 h) (fun g1 =>
  letT (fX6_clear_1 g1) (fun g2 =>
  fX7_readProof_l17 (fun (g10 : AH) =>
    some (-(g10.1 1 4), g10)) (fun (g11 : AH) =>
    some (-(g11.1 1 4), g11)) p2 fuel0 (0 : Int32) g2))
theorem sX7_readProof (p1 : Int32) (p2 : Int32) (h : AH) : Sim RX7 cX7_readProof 4 (some .int) 14 (Option.map oI) (fX7_readProof p1 p2 h) 0 [(0, .ref 25), (1, .int p1), (2, .int p2)] [] h := by
  unfold fX7_readProof
  refine sim_aload_n 0 rfl dX7_readProof_0 ?_
  refine sim_getR flX7_18 rfl rfl dX7_readProof_1 ?_
  refine sim_iload_n 1 rfl dX7_readProof_4 ?_
  refine sim_cV (As := [.int p1]) (st := []) (r := none) (h1 := (fX10_beginText p1 h)) (okX10_beginText p1 h) (fun _ => rfl) mlX7_22 mtX10_beginText rfl rfl rfl rfl (Nat.le_of_ble_eq_true rfl) rfl (Nat.le_of_ble_eq_true rfl) dX7_readProof_5 ?_
  refine sim_nmH (fun g1 => ?_)
  refine sim_aload_n 0 rfl dX7_readProof_8 ?_
  refine sim_getR flX7_12 rfl rfl dX7_readProof_9 ?_
  refine sim_cV (As := []) (st := []) (r := none) (h1 := (fX6_clear_1 g1)) (okX6_clear_1 g1) (fun _ => rfl) mlX7_28 mtX6_clear rfl rfl rfl rfl (Nat.le_of_ble_eq_true rfl) rfl (Nat.le_of_ble_eq_true rfl) dX7_readProof_12 ?_
  refine sim_nmH (fun g2 => ?_)
  refine sim_iconst (v := 0) (by decide) dX7_readProof_15 ?_
  refine sim_istore_n (L' := [(3, .int (0 : Int32)), (0, .ref 25), (1, .int p1), (2, .int p2)]) rfl (by decide) dX7_readProof_16 ?_
  refine sim_sub [1, 3, 0] rfl ?_
  refine sX7_readProof_l17 (fun g10 => ?_) (fun g11 => ?_) _ (0 : Int32) g2
  · refine sim_aload_n 0 rfl dX7_readProof_76 ?_
    refine sim_getR flX7_18 rfl rfl dX7_readProof_77 ?_
    refine sim_getI flX7_50 rfl rfl dX7_readProof_80 ?_
    refine sim_ineg dX7_readProof_83 ?_
    exact sim_iret rfl rfl dX7_readProof_84
  · refine sim_aload_n 0 rfl dX7_readProof_91 ?_
    refine sim_getR flX7_18 rfl rfl dX7_readProof_92 ?_
    refine sim_getI flX7_50 rfl rfl dX7_readProof_95 ?_
    refine sim_ineg dX7_readProof_98 ?_
    exact sim_iret rfl rfl dX7_readProof_99
theorem okX7_readProof (p1 : Int32) (p2 : Int32) (h : AH) (b : Int32 × AH) (e : fX7_readProof p1 p2 h = some b) : Ok yX7_readProof cX7_readProof 4 (some .int) 14 [.ref 25, .int p1, .int p2] h (some (.int b.1), b.2) := ok_of (sX7_readProof p1 p2 h) (by rw [e]; rfl) (by decide +kernel) (Nat.le_of_ble_eq_true rfl)
def fX10_clear (h : AH) : AH :=
  letT (sI h 1 1 (0 : Int32)) (fun g1 =>
  g1)
theorem sX10_clear (h : AH) : Sim RX10 cX10_clear 1 none 1 (tV) (fX10_clear h) 0 [(0, .ref 1)] [] h := by
  unfold fX10_clear
  refine sim_aload_n 0 rfl dX10_clear_0 ?_
  refine sim_iconst (v := 0) (by decide) dX10_clear_1 ?_
  refine sim_putI fpX10_15 rfl rfl rfl rfl dX10_clear_2 ?_
  refine sim_nmH (fun g1 => ?_)
  exact sim_vret rfl rfl dX10_clear_5
theorem okX10_clear (h : AH) : Ok yX10_clear cX10_clear 1 none 1 [.ref 1] h (none, fX10_clear h) := ok_of (sX10_clear h) rfl (by decide +kernel) (Nat.le_of_ble_eq_true rfl)
def fX11_copyRow_l2b (a0 : Nat) (a1 : Nat) (rec : Int32 → AH → Option AH) (x2 : Int32) (h : AH) : Option AH :=
  if x2 < (Int32.ofNat (aln a0)) then
    if x2 < (Int32.ofNat (aln a1)) then
      if x2 < 0 ∨ (aln a0) ≤ x2.toNatClampNeg then none else
      if x2 < 0 ∨ (aln a1) ≤ x2.toNatClampNeg then none else
      letT (sI h a1 x2.toNatClampNeg (h.1 a0 x2.toNatClampNeg)) (fun g5 =>
      rec (x2 + 1) g5)
    else
      some h
  else
    some h
def fX11_copyRow_l2 (a0 : Nat) (a1 : Nat) : Nat → Int32 → AH → Option AH
  | 0, _, _ => none
  | n + 1, x2, h => fX11_copyRow_l2b a0 a1 (fX11_copyRow_l2 a0 a1 n) x2 h
theorem sX11_copyRow_l2b (a0 : Nat) (a1 : Nat) (ia0 : isA a0) (ia1 : isA a1) {rec : Int32 → AH → Option AH} (hR : ∀ (x2 : Int32) (h : AH), Sim RX11 cX11_copyRow 3 none 1 (Option.map oV) (rec x2 h) 2 [(0, .ref a0), (1, .ref a1), (2, .int x2)] [] h) : ∀ (x2 : Int32) (h : AH), Sim RX11 cX11_copyRow 3 none 1 (Option.map oV) (fX11_copyRow_l2b a0 a1 rec x2 h) 2 [(0, .ref a0), (1, .ref a1), (2, .int x2)] [] h := by
  intro x2 h
  unfold fX11_copyRow_l2b
  refine sim_iload_n 2 rfl dX11_copyRow_2 ?_
  refine sim_aload_n 0 rfl dX11_copyRow_3 ?_
  refine sim_alen (v := Int32.ofNat (aln a0)) ia0 (by decide) rfl dX11_copyRow_4 ?_
  refine sim_icmp_ge (tgt := 26) dX11_copyRow_5 (by decide) (fun c1 => ?_) (fun c1 => ?_)
  · exact sim_vret rfl rfl dX11_copyRow_26
  · refine sim_iload_n 2 rfl dX11_copyRow_8 ?_
    refine sim_aload_n 1 rfl dX11_copyRow_9 ?_
    refine sim_alen (v := Int32.ofNat (aln a1)) ia1 (by decide) rfl dX11_copyRow_10 ?_
    refine sim_icmp_ge (tgt := 26) dX11_copyRow_11 (by decide) (fun c2 => ?_) (fun c2 => ?_)
    · exact sim_vret rfl rfl dX11_copyRow_26
    · refine sim_aload_n 1 rfl dX11_copyRow_14 ?_
      refine sim_iload_n 2 rfl dX11_copyRow_15 ?_
      refine sim_aload_n 0 rfl dX11_copyRow_16 ?_
      refine sim_iload_n 2 rfl dX11_copyRow_17 ?_
      refine sim_nguard (fun c3 => ?_)
      refine sim_iald ia0 c3 dX11_copyRow_18 ?_
      refine sim_nguard (fun c4 => ?_)
      refine sim_iast ia1 c4 dX11_copyRow_19 ?_
      refine sim_nmH (fun g5 => ?_)
      refine sim_iinc (v := x2 + 1) (L' := [(2, .int (x2 + 1)), (0, .ref a0), (1, .ref a1)]) 2 rfl rfl rfl (by decide) dX11_copyRow_20 ?_
      refine sim_goto (tgt := 2) dX11_copyRow_23 (by decide) ?_
      refine sim_sub [1, 2, 0] rfl ?_
      exact hR (x2 + 1) g5
theorem sX11_copyRow_l2 (a0 : Nat) (a1 : Nat) (ia0 : isA a0) (ia1 : isA a1) : ∀ (n : Nat) (x2 : Int32) (h : AH), Sim RX11 cX11_copyRow 3 none 1 (Option.map oV) (fX11_copyRow_l2 a0 a1 n x2 h) 2 [(0, .ref a0), (1, .ref a1), (2, .int x2)] [] h := by
  intro n
  induction n with
  | zero => intro x2 h; exact sim_none
  | succ n ih => intro x2 h; exact sX11_copyRow_l2b a0 a1 ia0 ia1 ih x2 h
def fX11_copyRow (a0 : Nat) (a1 : Nat) (h : AH) : Option AH :=
  fX11_copyRow_l2 a0 a1 fuel0 (0 : Int32) h
theorem sX11_copyRow (a0 : Nat) (a1 : Nat) (ia0 : isA a0) (ia1 : isA a1) (h : AH) : Sim RX11 cX11_copyRow 3 none 1 (Option.map oV) (fX11_copyRow a0 a1 h) 0 [(0, .ref a0), (1, .ref a1)] [] h := by
  unfold fX11_copyRow
  refine sim_iconst (v := 0) (by decide) dX11_copyRow_0 ?_
  refine sim_istore_n (L' := [(2, .int (0 : Int32)), (0, .ref a0), (1, .ref a1)]) rfl (by decide) dX11_copyRow_1 ?_
  refine sim_sub [1, 2, 0] rfl ?_
  refine sX11_copyRow_l2 a0 a1 ia0 ia1 _ (0 : Int32) h
theorem okX11_copyRow (a0 : Nat) (ia0 : isA a0) (a1 : Nat) (ia1 : isA a1) (h : AH) (b : AH) (e : fX11_copyRow a0 a1 h = some b) : Ok yX11_copyRow cX11_copyRow 3 none 1 [.ref a0, .ref a1] h (none, b) := ok_of (sX11_copyRow a0 a1 ia0 ia1 h) (by rw [e]; rfl) (by decide +kernel) (Nat.le_of_ble_eq_true rfl)
def fX6_become (h : AH) : Option AH :=
  letT (sI h 6 0 (h.1 26 0)) (fun g1 =>
  (fX11_copyRow 27 7 g1).bind (fun b2 =>
  (fX11_copyRow 28 8 b2).bind (fun b4 =>
  (fX11_copyRow 29 9 b4).bind (fun b6 =>
  (fX11_copyRow 30 10 b6).bind (fun b8 =>
  (fX11_copyRow 31 11 b8).bind (fun b10 =>
  (fX11_copyRow 32 12 b10).bind (fun b12 =>
  (fX11_copyRow 33 13 b12).bind (fun b14 =>
  some b14))))))))
theorem sX6_become (h : AH) : Sim RX6 cX6_become 2 none 2 (Option.map oV) (fX6_become h) 0 [(0, .ref 6), (1, .ref 26)] [] h := by
  unfold fX6_become
  refine sim_aload_n 0 rfl dX6_become_0 ?_
  refine sim_aload_n 1 rfl dX6_become_1 ?_
  refine sim_getI flX6_9 rfl rfl dX6_become_2 ?_
  refine sim_putI fpX6_9 rfl rfl rfl rfl dX6_become_5 ?_
  refine sim_nmH (fun g1 => ?_)
  refine sim_aload_n 1 rfl dX6_become_8 ?_
  refine sim_getR flX6_15 rfl rfl dX6_become_9 ?_
  refine sim_aload_n 0 rfl dX6_become_12 ?_
  refine sim_getR flX6_15 rfl rfl dX6_become_13 ?_
  refine sim_bind (fun b2 e3 => ?_)
  refine sim_cS (As := [.ref 27, .ref 7]) (st := []) (r := none) (h1 := b2) (okX11_copyRow 27 rfl 7 rfl g1 b2 e3) (fun _ => rfl) mlX6_37 mtX11_copyRow rfl (Nat.le_of_ble_eq_true rfl) rfl (Nat.le_of_ble_eq_true rfl) dX6_become_16 ?_
  refine sim_aload_n 1 rfl dX6_become_19 ?_
  refine sim_getR flX6_19 rfl rfl dX6_become_20 ?_
  refine sim_aload_n 0 rfl dX6_become_23 ?_
  refine sim_getR flX6_19 rfl rfl dX6_become_24 ?_
  refine sim_bind (fun b4 e5 => ?_)
  refine sim_cS (As := [.ref 28, .ref 8]) (st := []) (r := none) (h1 := b4) (okX11_copyRow 28 rfl 8 rfl b2 b4 e5) (fun _ => rfl) mlX6_37 mtX11_copyRow rfl (Nat.le_of_ble_eq_true rfl) rfl (Nat.le_of_ble_eq_true rfl) dX6_become_27 ?_
  refine sim_aload_n 1 rfl dX6_become_30 ?_
  refine sim_getR flX6_22 rfl rfl dX6_become_31 ?_
  refine sim_aload_n 0 rfl dX6_become_34 ?_
  refine sim_getR flX6_22 rfl rfl dX6_become_35 ?_
  refine sim_bind (fun b6 e7 => ?_)
  refine sim_cS (As := [.ref 29, .ref 9]) (st := []) (r := none) (h1 := b6) (okX11_copyRow 29 rfl 9 rfl b4 b6 e7) (fun _ => rfl) mlX6_37 mtX11_copyRow rfl (Nat.le_of_ble_eq_true rfl) rfl (Nat.le_of_ble_eq_true rfl) dX6_become_38 ?_
  refine sim_aload_n 1 rfl dX6_become_41 ?_
  refine sim_getR flX6_25 rfl rfl dX6_become_42 ?_
  refine sim_aload_n 0 rfl dX6_become_45 ?_
  refine sim_getR flX6_25 rfl rfl dX6_become_46 ?_
  refine sim_bind (fun b8 e9 => ?_)
  refine sim_cS (As := [.ref 30, .ref 10]) (st := []) (r := none) (h1 := b8) (okX11_copyRow 30 rfl 10 rfl b6 b8 e9) (fun _ => rfl) mlX6_37 mtX11_copyRow rfl (Nat.le_of_ble_eq_true rfl) rfl (Nat.le_of_ble_eq_true rfl) dX6_become_49 ?_
  refine sim_aload_n 1 rfl dX6_become_52 ?_
  refine sim_getR flX6_28 rfl rfl dX6_become_53 ?_
  refine sim_aload_n 0 rfl dX6_become_56 ?_
  refine sim_getR flX6_28 rfl rfl dX6_become_57 ?_
  refine sim_bind (fun b10 e11 => ?_)
  refine sim_cS (As := [.ref 31, .ref 11]) (st := []) (r := none) (h1 := b10) (okX11_copyRow 31 rfl 11 rfl b8 b10 e11) (fun _ => rfl) mlX6_37 mtX11_copyRow rfl (Nat.le_of_ble_eq_true rfl) rfl (Nat.le_of_ble_eq_true rfl) dX6_become_60 ?_
  refine sim_aload_n 1 rfl dX6_become_63 ?_
  refine sim_getR flX6_31 rfl rfl dX6_become_64 ?_
  refine sim_aload_n 0 rfl dX6_become_67 ?_
  refine sim_getR flX6_31 rfl rfl dX6_become_68 ?_
  refine sim_bind (fun b12 e13 => ?_)
  refine sim_cS (As := [.ref 32, .ref 12]) (st := []) (r := none) (h1 := b12) (okX11_copyRow 32 rfl 12 rfl b10 b12 e13) (fun _ => rfl) mlX6_37 mtX11_copyRow rfl (Nat.le_of_ble_eq_true rfl) rfl (Nat.le_of_ble_eq_true rfl) dX6_become_71 ?_
  refine sim_aload_n 1 rfl dX6_become_74 ?_
  refine sim_getR flX6_34 rfl rfl dX6_become_75 ?_
  refine sim_aload_n 0 rfl dX6_become_78 ?_
  refine sim_getR flX6_34 rfl rfl dX6_become_79 ?_
  refine sim_bind (fun b14 e15 => ?_)
  refine sim_cS (As := [.ref 33, .ref 13]) (st := []) (r := none) (h1 := b14) (okX11_copyRow 33 rfl 13 rfl b12 b14 e15) (fun _ => rfl) mlX6_37 mtX11_copyRow rfl (Nat.le_of_ble_eq_true rfl) rfl (Nat.le_of_ble_eq_true rfl) dX6_become_82 ?_
  exact sim_vret rfl rfl dX6_become_85
theorem okX6_become (h : AH) (b : AH) (e : fX6_become h = some b) : Ok yX6_become cX6_become 2 none 2 [.ref 6, .ref 26] h (none, b) := ok_of (sX6_become h) (by rw [e]; rfl) (by decide +kernel) (Nat.le_of_ble_eq_true rfl)
def fX11_proof (p1 : Int32) (h : AH) : Option (Int32 × AH) :=
  if p1 < (1 : Int32) then
    some ((-1 : Int32), h)
  else
    if (200 : Int32) < p1 then
      some ((-1 : Int32), h)
    else
      if (h.1 1 1) < p1 then
        some ((-1 : Int32), h)
      else
        (fX7_readProof p1 (h.1 3 0) h).bind (fun b4 =>
        letT (fX10_clear b4.2) (fun g6 =>
        if 0 < b4.1 then
          (fX6_become g6).bind (fun b8 =>
          some (b4.1, b8))
        else
          some (b4.1, g6)))
theorem sX11_proof (p1 : Int32) (h : AH) : Sim RX11 cX11_proof 3 (some .int) 15 (Option.map oI) (fX11_proof p1 h) 0 [(0, .ref 0), (1, .int p1)] [] h := by
  unfold fX11_proof
  refine sim_iload_n 1 rfl dX11_proof_0 ?_
  refine sim_iconst (v := 1) (by decide) dX11_proof_1 ?_
  refine sim_icmp_lt (tgt := 23) dX11_proof_2 (by decide) (fun c1 => ?_) (fun c1 => ?_)
  · refine sim_iconst (v := -1) (by decide) dX11_proof_23 ?_
    exact sim_iret rfl rfl dX11_proof_24
  · refine sim_iload_n 1 rfl dX11_proof_5 ?_
    refine sim_sipush (v := 200) (by decide) dX11_proof_6 ?_
    refine sim_icmp_gt (tgt := 23) dX11_proof_9 (by decide) (fun c2 => ?_) (fun c2 => ?_)
    · refine sim_iconst (v := -1) (by decide) dX11_proof_23 ?_
      exact sim_iret rfl rfl dX11_proof_24
    · refine sim_iload_n 1 rfl dX11_proof_12 ?_
      refine sim_aload_n 0 rfl dX11_proof_13 ?_
      refine sim_getR flX11_10 rfl rfl dX11_proof_14 ?_
      refine sim_getI flX11_116 rfl rfl dX11_proof_17 ?_
      refine sim_icmp_le (tgt := 25) dX11_proof_20 (by decide) (fun c3 => ?_) (fun c3 => ?_)
      · refine sim_aload_n 0 rfl dX11_proof_25 ?_
        refine sim_getR flX11_35 rfl rfl dX11_proof_26 ?_
        refine sim_iload_n 1 rfl dX11_proof_29 ?_
        refine sim_aload_n 0 rfl dX11_proof_30 ?_
        refine sim_getR flX11_19 rfl rfl dX11_proof_31 ?_
        refine sim_getI flX11_123 rfl rfl dX11_proof_34 ?_
        refine sim_bind (fun b4 e5 => ?_)
        refine sim_cV (As := [.int p1, .int (h.1 3 0)]) (st := []) (r := (some (.int b4.1))) (h1 := b4.2) (okX7_readProof p1 (h.1 3 0) h b4 e5) (fun _ => rfl) mlX11_126 mtX7_readProof rfl rfl rfl rfl (Nat.le_of_ble_eq_true rfl) rfl (Nat.le_of_ble_eq_true rfl) dX11_proof_37 ?_
        refine sim_istore_n (L' := [(2, .int b4.1), (0, .ref 0), (1, .int p1)]) rfl (by decide) dX11_proof_40 ?_
        refine sim_aload_n 1 rfl dX11_proof_41 ?_
        refine sim_getR flX11_10 rfl rfl dX11_proof_42 ?_
        refine sim_cV (As := []) (st := []) (r := none) (h1 := (fX10_clear b4.2)) (okX10_clear b4.2) (fun _ => rfl) mlX11_130 mtX10_clear rfl rfl rfl rfl (Nat.le_of_ble_eq_true rfl) rfl (Nat.le_of_ble_eq_true rfl) dX11_proof_45 ?_
        refine sim_nmH (fun g6 => ?_)
        refine sim_iload_n 0 rfl dX11_proof_48 ?_
        refine sim_if_le (tgt := 69) dX11_proof_49 (by decide) (fun c7 => ?_) (fun c7 => ?_)
        · refine sim_iload_n 0 rfl dX11_proof_69 ?_
          exact sim_iret rfl rfl dX11_proof_70
        · refine sim_aload_n 1 rfl dX11_proof_52 ?_
          refine sim_getR flX11_19 rfl rfl dX11_proof_53 ?_
          refine sim_getR flX11_133 rfl rfl dX11_proof_56 ?_
          refine sim_aload_n 1 rfl dX11_proof_59 ?_
          refine sim_getR flX11_35 rfl rfl dX11_proof_60 ?_
          refine sim_getR flX11_137 rfl rfl dX11_proof_63 ?_
          refine sim_bind (fun b8 e9 => ?_)
          refine sim_cV (As := [.ref 26]) (st := []) (r := none) (h1 := b8) (okX6_become g6 b8 e9) (fun _ => rfl) mlX11_140 mtX6_become rfl rfl rfl rfl (Nat.le_of_ble_eq_true rfl) rfl (Nat.le_of_ble_eq_true rfl) dX11_proof_66 ?_
          refine sim_iload_n 0 rfl dX11_proof_69 ?_
          exact sim_iret rfl rfl dX11_proof_70
      · refine sim_iconst (v := -1) (by decide) dX11_proof_23 ?_
        exact sim_iret rfl rfl dX11_proof_24
theorem okX11_proof (p1 : Int32) (h : AH) (b : Int32 × AH) (e : fX11_proof p1 h = some b) : Ok yX11_proof cX11_proof 3 (some .int) 15 [.ref 0, .int p1] h (some (.int b.1), b.2) := ok_of (sX11_proof p1 h) (by rw [e]; rfl) (by decide +kernel) (Nat.le_of_ble_eq_true rfl)
def fX4_clear (h : AH) : AH :=
  letT (sI h 35 0 (0 : Int32)) (fun g1 =>
  letT (sI g1 35 1 (0 : Int32)) (fun g2 =>
  letT (sI g2 35 2 (0 : Int32)) (fun g3 =>
  g3)))
theorem sX4_clear (h : AH) : Sim RX4 cX4_clear 1 none 1 (tV) (fX4_clear h) 0 [(0, .ref 35)] [] h := by
  unfold fX4_clear
  refine sim_aload_n 0 rfl dX4_clear_0 ?_
  refine sim_iconst (v := 0) (by decide) dX4_clear_1 ?_
  refine sim_putI fpX4_9 rfl rfl rfl rfl dX4_clear_2 ?_
  refine sim_nmH (fun g1 => ?_)
  refine sim_aload_n 0 rfl dX4_clear_5 ?_
  refine sim_iconst (v := 0) (by decide) dX4_clear_6 ?_
  refine sim_putI fpX4_15 rfl rfl rfl rfl dX4_clear_7 ?_
  refine sim_nmH (fun g2 => ?_)
  refine sim_aload_n 0 rfl dX4_clear_10 ?_
  refine sim_iconst (v := 0) (by decide) dX4_clear_11 ?_
  refine sim_putI fpX4_19 rfl rfl rfl rfl dX4_clear_12 ?_
  refine sim_nmH (fun g3 => ?_)
  exact sim_vret rfl rfl dX4_clear_15
theorem okX4_clear (h : AH) : Ok yX4_clear cX4_clear 1 none 1 [.ref 35] h (none, fX4_clear h) := ok_of (sX4_clear h) rfl (by decide +kernel) (Nat.le_of_ble_eq_true rfl)
def fX4_openClause (p1 : Int32) (h : AH) : AH :=
  letT (fX11_put 37 (h.1 35 0) p1 h) (fun g1 =>
  g1)
theorem sX4_openClause (p1 : Int32) (h : AH) : Sim RX4 cX4_openClause 2 none 2 (tV) (fX4_openClause p1 h) 0 [(0, .ref 35), (1, .int p1)] [] h := by
  unfold fX4_openClause
  refine sim_aload_n 0 rfl dX4_openClause_0 ?_
  refine sim_getR flX4_32 rfl rfl dX4_openClause_1 ?_
  refine sim_aload_n 0 rfl dX4_openClause_4 ?_
  refine sim_getI flX4_9 rfl rfl dX4_openClause_5 ?_
  refine sim_iload_n 1 rfl dX4_openClause_8 ?_
  refine sim_cS (As := [.ref 37, .int (h.1 35 0), .int p1]) (st := []) (r := none) (h1 := (fX11_put 37 (h.1 35 0) p1 h)) (okX11_put 37 rfl (h.1 35 0) p1 h) (fun _ => rfl) mlX4_51 mtX11_put rfl (Nat.le_of_ble_eq_true rfl) rfl (Nat.le_of_ble_eq_true rfl) dX4_openClause_9 ?_
  refine sim_nmH (fun g1 => ?_)
  exact sim_vret rfl rfl dX4_openClause_12
theorem okX4_openClause (p1 : Int32) (h : AH) : Ok yX4_openClause cX4_openClause 2 none 2 [.ref 35, .int p1] h (none, fX4_openClause p1 h) := ok_of (sX4_openClause p1 h) rfl (by decide +kernel) (Nat.le_of_ble_eq_true rfl)
def fX5_readLetter (p1 : Int32) (h : AH) : AH :=
  letT (fun (g1 : AH) =>
    letT (sI g1 34 2 (g1.1 1 3)) (fun g3 =>
    letT (fX10_step g3) (fun g4 =>
    letT (fX4_openClause (g4.1 34 2) g4) (fun g5 =>
    g5)))) (fun J2 =>
  if (fX10_among 0 h) < 0 then
    letT (fX10_failHere h) (fun g9 =>
    J2 g9)
  else
    if p1 = (14 : Int32) then
      letT (fX10_fail (4 : Int32) (h.1 1 2) h) (fun g8 =>
      J2 g8)
    else
      J2 h)
theorem sX5_readLetter (p1 : Int32) (h : AH) : Sim RX5 cX5_readLetter 2 none 13 (tV) (fX5_readLetter p1 h) 0 [(0, .ref 34), (1, .int p1)] [] h := by
  unfold fX5_readLetter
  refine sim_aload_n 0 rfl dX5_readLetter_0 ?_
  refine sim_getR flX5_22 rfl rfl dX5_readLetter_1 ?_
  refine sim_ldcS 0 (by decide) rfl rfl dX5_readLetter_4 ?_
  refine sim_cV (As := [.ref 200]) (st := []) (r := (some (.int (fX10_among 0 h)))) (h1 := h) (okX10_among 0 (by decide) h) (fun _ => rfl) mlX5_69 mtX10_among rfl rfl rfl rfl (Nat.le_of_ble_eq_true rfl) rfl (Nat.le_of_ble_eq_true rfl) dX5_readLetter_6 ?_
  refine sim_letJ (fun J2 => ∀ (g1 : AH), Sim RX5 cX5_readLetter 2 none 13 (tV) (J2 g1) 43 [(0, .ref 34)] [] g1) (fun g1 => ?_) (fun J2 hJ2 => ?_)
  · refine sim_aload_n 0 rfl dX5_readLetter_43 ?_
    refine sim_aload_n 0 rfl dX5_readLetter_44 ?_
    refine sim_getR flX5_22 rfl rfl dX5_readLetter_45 ?_
    refine sim_getI flX5_83 rfl rfl dX5_readLetter_48 ?_
    refine sim_putI fpX5_18 rfl rfl rfl rfl dX5_readLetter_51 ?_
    refine sim_nmH (fun g3 => ?_)
    refine sim_aload_n 0 rfl dX5_readLetter_54 ?_
    refine sim_getR flX5_22 rfl rfl dX5_readLetter_55 ?_
    refine sim_cV (As := []) (st := []) (r := none) (h1 := (fX10_step g3)) (okX10_step g3) (fun _ => rfl) mlX5_86 mtX10_step rfl rfl rfl rfl (Nat.le_of_ble_eq_true rfl) rfl (Nat.le_of_ble_eq_true rfl) dX5_readLetter_58 ?_
    refine sim_nmH (fun g4 => ?_)
    refine sim_aload_n 0 rfl dX5_readLetter_61 ?_
    refine sim_getR flX5_12 rfl rfl dX5_readLetter_62 ?_
    refine sim_aload_n 0 rfl dX5_readLetter_65 ?_
    refine sim_getI flX5_18 rfl rfl dX5_readLetter_66 ?_
    refine sim_cV (As := [.int (g4.1 34 2)]) (st := []) (r := none) (h1 := (fX4_openClause (g4.1 34 2) g4)) (okX4_openClause (g4.1 34 2) g4) (fun _ => rfl) mlX5_89 mtX4_openClause rfl rfl rfl rfl (Nat.le_of_ble_eq_true rfl) rfl (Nat.le_of_ble_eq_true rfl) dX5_readLetter_69 ?_
    refine sim_nmH (fun g5 => ?_)
    exact sim_vret rfl rfl dX5_readLetter_72
  refine sim_if_ge (tgt := 22) dX5_readLetter_9 (by decide) (fun c6 => ?_) (fun c6 => ?_)
  · refine sim_iload_n 1 rfl dX5_readLetter_22 ?_
    refine sim_bipush (v := 14) (by decide) dX5_readLetter_23 ?_
    refine sim_icmp_ne (tgt := 43) dX5_readLetter_25 (by decide) (fun c7 => ?_) (fun c7 => ?_)
    · refine sim_sub [0] rfl ?_
      exact hJ2 h
    · refine sim_aload_n 0 rfl dX5_readLetter_28 ?_
      refine sim_getR flX5_22 rfl rfl dX5_readLetter_29 ?_
      refine sim_iconst (v := 4) (by decide) dX5_readLetter_32 ?_
      refine sim_aload_n 0 rfl dX5_readLetter_33 ?_
      refine sim_getR flX5_22 rfl rfl dX5_readLetter_34 ?_
      refine sim_getI flX5_76 rfl rfl dX5_readLetter_37 ?_
      refine sim_cV (As := [.int (4 : Int32), .int (h.1 1 2)]) (st := []) (r := none) (h1 := (fX10_fail (4 : Int32) (h.1 1 2) h)) (okX10_fail (4 : Int32) (h.1 1 2) h) (fun _ => rfl) mlX5_79 mtX10_fail rfl rfl rfl rfl (Nat.le_of_ble_eq_true rfl) rfl (Nat.le_of_ble_eq_true rfl) dX5_readLetter_40 ?_
      refine sim_nmH (fun g8 => ?_)
      refine sim_sub [0] rfl ?_
      exact hJ2 g8
  · refine sim_aload_n 0 rfl dX5_readLetter_12 ?_
    refine sim_getR flX5_22 rfl rfl dX5_readLetter_13 ?_
    refine sim_cV (As := []) (st := []) (r := none) (h1 := (fX10_failHere h)) (okX10_failHere h) (fun _ => rfl) mlX5_73 mtX10_failHere rfl rfl rfl rfl (Nat.le_of_ble_eq_true rfl) rfl (Nat.le_of_ble_eq_true rfl) dX5_readLetter_16 ?_
    refine sim_nmH (fun g9 => ?_)
    refine sim_goto (tgt := 43) dX5_readLetter_19 (by decide) ?_
    refine sim_sub [0] rfl ?_
    exact hJ2 g9
theorem okX5_readLetter (p1 : Int32) (h : AH) : Ok yX5_readLetter cX5_readLetter 2 none 13 [.ref 34, .int p1] h (none, fX5_readLetter p1 h) := ok_of (sX5_readLetter p1 h) rfl (by decide +kernel) (Nat.le_of_ble_eq_true rfl)
def fX4_openCondition (h : AH) : AH :=
  letT (fX11_put 39 (h.1 35 0) (h.1 35 2) h) (fun g1 =>
  g1)
theorem sX4_openCondition (h : AH) : Sim RX4 cX4_openCondition 1 none 2 (tV) (fX4_openCondition h) 0 [(0, .ref 35)] [] h := by
  unfold fX4_openCondition
  refine sim_aload_n 0 rfl dX4_openCondition_0 ?_
  refine sim_getR flX4_38 rfl rfl dX4_openCondition_1 ?_
  refine sim_aload_n 0 rfl dX4_openCondition_4 ?_
  refine sim_getI flX4_9 rfl rfl dX4_openCondition_5 ?_
  refine sim_aload_n 0 rfl dX4_openCondition_8 ?_
  refine sim_getI flX4_19 rfl rfl dX4_openCondition_9 ?_
  refine sim_cS (As := [.ref 39, .int (h.1 35 0), .int (h.1 35 2)]) (st := []) (r := none) (h1 := (fX11_put 39 (h.1 35 0) (h.1 35 2) h)) (okX11_put 39 rfl (h.1 35 0) (h.1 35 2) h) (fun _ => rfl) mlX4_51 mtX11_put rfl (Nat.le_of_ble_eq_true rfl) rfl (Nat.le_of_ble_eq_true rfl) dX4_openCondition_12 ?_
  refine sim_nmH (fun g1 => ?_)
  exact sim_vret rfl rfl dX4_openCondition_15
theorem okX4_openCondition (h : AH) : Ok yX4_openCondition cX4_openCondition 1 none 2 [.ref 35] h (none, fX4_openCondition h) := ok_of (sX4_openCondition h) rfl (by decide +kernel) (Nat.le_of_ble_eq_true rfl)
def fX4_aimHere (p1 : Int32) (h : AH) : AH :=
  if p1 < 0 then
    h
  else
    letT (fX11_put 36 p1 ((fX11_at 36 p1 h) ||| (jshl (h.1 35 2) (4 : Int32))) h) (fun g2 =>
    g2)
theorem sX4_aimHere (p1 : Int32) (h : AH) : Sim RX4 cX4_aimHere 2 none 2 (tV) (fX4_aimHere p1 h) 0 [(0, .ref 35), (1, .int p1)] [] h := by
  unfold fX4_aimHere
  refine sim_iload_n 1 rfl dX4_aimHere_0 ?_
  refine sim_if_lt (tgt := 27) dX4_aimHere_1 (by decide) (fun c1 => ?_) (fun c1 => ?_)
  · exact sim_vret rfl rfl dX4_aimHere_27
  · refine sim_aload_n 0 rfl dX4_aimHere_4 ?_
    refine sim_getR flX4_28 rfl rfl dX4_aimHere_5 ?_
    refine sim_iload_n 1 rfl dX4_aimHere_8 ?_
    refine sim_aload_n 0 rfl dX4_aimHere_9 ?_
    refine sim_getR flX4_28 rfl rfl dX4_aimHere_10 ?_
    refine sim_iload_n 1 rfl dX4_aimHere_13 ?_
    refine sim_cS (As := [.ref 36, .int p1]) (st := [.int p1, .ref 36]) (r := (some (.int (fX11_at 36 p1 h)))) (h1 := h) (okX11_at 36 rfl p1 h) (fun _ => rfl) mlX4_55 mtX11_at rfl (Nat.le_of_ble_eq_true rfl) rfl (Nat.le_of_ble_eq_true rfl) dX4_aimHere_14 ?_
    refine sim_aload_n 0 rfl dX4_aimHere_17 ?_
    refine sim_getI flX4_19 rfl rfl dX4_aimHere_18 ?_
    refine sim_iconst (v := 4) (by decide) dX4_aimHere_21 ?_
    refine sim_ishl dX4_aimHere_22 ?_
    refine sim_ior dX4_aimHere_23 ?_
    refine sim_cS (As := [.ref 36, .int p1, .int ((fX11_at 36 p1 h) ||| (jshl (h.1 35 2) (4 : Int32)))]) (st := []) (r := none) (h1 := (fX11_put 36 p1 ((fX11_at 36 p1 h) ||| (jshl (h.1 35 2) (4 : Int32))) h)) (okX11_put 36 rfl p1 ((fX11_at 36 p1 h) ||| (jshl (h.1 35 2) (4 : Int32))) h) (fun _ => rfl) mlX4_51 mtX11_put rfl (Nat.le_of_ble_eq_true rfl) rfl (Nat.le_of_ble_eq_true rfl) dX4_aimHere_24 ?_
    refine sim_nmH (fun g2 => ?_)
    exact sim_vret rfl rfl dX4_aimHere_27
theorem okX4_aimHere (p1 : Int32) (h : AH) : Ok yX4_aimHere cX4_aimHere 2 none 2 [.ref 35, .int p1] h (none, fX4_aimHere p1 h) := ok_of (sX4_aimHere p1 h) rfl (by decide +kernel) (Nat.le_of_ble_eq_true rfl)
def fX4_emit (p1 : Int32) (p2 : Int32) (h : AH) : Int32 × AH :=
  letT (fX11_put 36 (h.1 35 2) ((jshl p2 (4 : Int32)) ||| p1) h) (fun g1 =>
  letT (sI g1 35 2 ((g1.1 35 2) + (1 : Int32))) (fun g2 =>
  ((g2.1 35 2) - (1 : Int32), g2)))
theorem sX4_emit (p1 : Int32) (p2 : Int32) (h : AH) : Sim RX4 cX4_emit 3 (some .int) 2 (tP) (fX4_emit p1 p2 h) 0 [(0, .ref 35), (1, .int p1), (2, .int p2)] [] h := by
  unfold fX4_emit
  refine sim_aload_n 0 rfl dX4_emit_0 ?_
  refine sim_getR flX4_28 rfl rfl dX4_emit_1 ?_
  refine sim_aload_n 0 rfl dX4_emit_4 ?_
  refine sim_getI flX4_19 rfl rfl dX4_emit_5 ?_
  refine sim_iload_n 2 rfl dX4_emit_8 ?_
  refine sim_iconst (v := 4) (by decide) dX4_emit_9 ?_
  refine sim_ishl dX4_emit_10 ?_
  refine sim_iload_n 1 rfl dX4_emit_11 ?_
  refine sim_ior dX4_emit_12 ?_
  refine sim_cS (As := [.ref 36, .int (h.1 35 2), .int ((jshl p2 (4 : Int32)) ||| p1)]) (st := []) (r := none) (h1 := (fX11_put 36 (h.1 35 2) ((jshl p2 (4 : Int32)) ||| p1) h)) (okX11_put 36 rfl (h.1 35 2) ((jshl p2 (4 : Int32)) ||| p1) h) (fun _ => rfl) mlX4_51 mtX11_put rfl (Nat.le_of_ble_eq_true rfl) rfl (Nat.le_of_ble_eq_true rfl) dX4_emit_13 ?_
  refine sim_nmH (fun g1 => ?_)
  refine sim_aload_n 0 rfl dX4_emit_16 ?_
  refine sim_dup dX4_emit_17 rfl ?_
  refine sim_getI flX4_19 rfl rfl dX4_emit_18 ?_
  refine sim_iconst (v := 1) (by decide) dX4_emit_21 ?_
  refine sim_iadd dX4_emit_22 ?_
  refine sim_putI fpX4_19 rfl rfl rfl rfl dX4_emit_23 ?_
  refine sim_nmH (fun g2 => ?_)
  refine sim_aload_n 0 rfl dX4_emit_26 ?_
  refine sim_getI flX4_19 rfl rfl dX4_emit_27 ?_
  refine sim_iconst (v := 1) (by decide) dX4_emit_30 ?_
  refine sim_isub dX4_emit_31 ?_
  exact sim_iret rfl rfl dX4_emit_32
theorem okX4_emit (p1 : Int32) (p2 : Int32) (h : AH) : Ok yX4_emit cX4_emit 3 (some .int) 2 [.ref 35, .int p1, .int p2] h (some (.int (fX4_emit p1 p2 h).1), (fX4_emit p1 p2 h).2) := ok_of (sX4_emit p1 p2 h) rfl (by decide +kernel) (Nat.le_of_ble_eq_true rfl)
def fX5_readChoice_l30b (rp : Int32 → AH → Option AH) (rec : Int32 → Int32 → Int32 → AH → Option AH) (K115 : AH → Option AH) (x1 : Int32) (x2 : Int32) (x3 : Int32) (x4 : Int32) (x5 : Int32) (x6 : Int32) (h : AH) : Option AH :=
  if x6 < (200 : Int32) then
    if x5 = 0 then
      K115 h
    else
      if (fX10_isSound h) = 0 then
        K115 h
      else
        (rp x1 h).bind (fun b6 =>
        letT (fX4_aimHere x4 b6) (fun g8 =>
        letT (fun (w9 : Int32) =>
          if w9 = 0 then
            rec x4 w9 (x6 + 1) g8
          else
            letT (fX4_emit (3 : Int32) (0 : Int32) g8) (fun b12 =>
            letT (fX10_step b12.2) (fun g13 =>
            rec b12.1 w9 (x6 + 1) g13))) (fun J10 =>
        if (g8.1 1 3) = (38 : Int32) then
          J10 (1 : Int32)
        else
          J10 (0 : Int32))))
  else
    K115 h
def fX5_readChoice_l30 (rp : Int32 → AH → Option AH) (K115 : AH → Option AH) (x1 : Int32) (x2 : Int32) (x3 : Int32) : Nat → Int32 → Int32 → Int32 → AH → Option AH
  | 0, _, _, _, _ => none
  | n + 1, x4, x5, x6, h => fX5_readChoice_l30b rp (fX5_readChoice_l30 rp K115 x1 x2 x3 n) K115 x1 x2 x3 x4 x5 x6 h
theorem sX5_readChoice_l30b (d : Nat) (rp : Int32 → AH → Option AH) (hrp : ∀ (p : Int32) (h b : AH), rp p h = some b → Ok yX5_readPiece cX5_readPiece 3 none (40 + 2 * d) [.ref 34, .int p] h (none, b)) {rec : Int32 → Int32 → Int32 → AH → Option AH} {K115 : AH → Option AH} {x1 : Int32} {x2 : Int32} {x3 : Int32} (hR : ∀ (x4 : Int32) (x5 : Int32) (x6 : Int32) (h : AH), Sim RX5 cX5_readChoice 7 none (41 + 2 * d) (Option.map oV) (rec x4 x5 x6 h) 30 [(0, .ref 34), (1, .int x1), (2, .int x2), (3, .int x3), (4, .int x4), (5, .int x5), (6, .int x6)] [] h) (hK115 : ∀ (g : AH), Sim RX5 cX5_readChoice 7 none (41 + 2 * d) (Option.map oV) (K115 g) 115 [(0, .ref 34), (1, .int x1), (2, .int x2), (3, .int x3)] [] g) : ∀ (x4 : Int32) (x5 : Int32) (x6 : Int32) (h : AH), Sim RX5 cX5_readChoice 7 none (41 + 2 * d) (Option.map oV) (fX5_readChoice_l30b rp rec K115 x1 x2 x3 x4 x5 x6 h) 30 [(0, .ref 34), (1, .int x1), (2, .int x2), (3, .int x3), (4, .int x4), (5, .int x5), (6, .int x6)] [] h := by
  intro x4 x5 x6 h
  unfold fX5_readChoice_l30b
  refine sim_iload 6 rfl dX5_readChoice_30 ?_
  refine sim_sipush (v := 200) (by decide) dX5_readChoice_32 ?_
  refine sim_icmp_ge (tgt := 115) dX5_readChoice_35 (by decide) (fun c3 => ?_) (fun c3 => ?_)
  · refine sim_sub [0, 1, 2, 3] rfl ?_
    exact hK115 h
  · refine sim_iload 5 rfl dX5_readChoice_38 ?_
    refine sim_if_eq (tgt := 115) dX5_readChoice_40 (by decide) (fun c4 => ?_) (fun c4 => ?_)
    · refine sim_sub [0, 1, 2, 3] rfl ?_
      exact hK115 h
    · refine sim_aload_n 0 rfl dX5_readChoice_43 ?_
      refine sim_getR flX5_22 rfl rfl dX5_readChoice_44 ?_
      refine sim_cV (As := []) (st := []) (r := (some (.int (fX10_isSound h)))) (h1 := h) (okX10_isSound h) (fun _ => rfl) mlX5_51 mtX10_isSound rfl rfl rfl rfl (by omega) rfl (Nat.le_of_ble_eq_true rfl) dX5_readChoice_47 ?_
      refine sim_if_eq (tgt := 115) dX5_readChoice_50 (by decide) (fun c5 => ?_) (fun c5 => ?_)
      · refine sim_sub [0, 1, 2, 3] rfl ?_
        exact hK115 h
      · refine sim_aload_n 0 rfl dX5_readChoice_53 ?_
        refine sim_iload_n 1 rfl dX5_readChoice_54 ?_
        refine sim_bind (fun b6 e7 => ?_)
        refine sim_cV (As := [.int x1]) (st := []) (r := none) (h1 := b6) (hrp x1 h b6 e7) (fun _ => rfl) mlX5_92 mtX5_readPiece rfl rfl rfl rfl (by omega) rfl (Nat.le_of_ble_eq_true rfl) dX5_readChoice_55 ?_
        refine sim_aload_n 0 rfl dX5_readChoice_58 ?_
        refine sim_getR flX5_12 rfl rfl dX5_readChoice_59 ?_
        refine sim_iload 4 rfl dX5_readChoice_62 ?_
        refine sim_cV (As := [.int x4]) (st := []) (r := none) (h1 := (fX4_aimHere x4 b6)) (okX4_aimHere x4 b6) (fun _ => rfl) mlX5_95 mtX4_aimHere rfl rfl rfl rfl (by omega) rfl (Nat.le_of_ble_eq_true rfl) dX5_readChoice_64 ?_
        refine sim_nmH (fun g8 => ?_)
        refine sim_aload_n 0 rfl dX5_readChoice_67 ?_
        refine sim_getR flX5_22 rfl rfl dX5_readChoice_68 ?_
        refine sim_getI flX5_83 rfl rfl dX5_readChoice_71 ?_
        refine sim_bipush (v := 38) (by decide) dX5_readChoice_74 ?_
        refine sim_letJ (fun J10 => ∀ (w9 : Int32), Sim RX5 cX5_readChoice 7 none (41 + 2 * d) (Option.map oV) (J10 w9) 84 [(0, .ref 34), (1, .int x1), (2, .int x2), (3, .int x3), (4, .int x4), (6, .int x6)] [.int w9] g8) (fun w9 => ?_) (fun J10 hJ10 => ?_)
        · refine sim_istore (L' := [(5, .int w9), (0, .ref 34), (1, .int x1), (2, .int x2), (3, .int x3), (4, .int x4), (6, .int x6)]) rfl (by decide) dX5_readChoice_84 ?_
          refine sim_iload 0 rfl dX5_readChoice_86 ?_
          refine sim_if_eq (tgt := 109) dX5_readChoice_88 (by decide) (fun c11 => ?_) (fun c11 => ?_)
          · refine sim_iinc (v := x6 + 1) (L' := [(6, .int (x6 + 1)), (5, .int w9), (0, .ref 34), (1, .int x1), (2, .int x2), (3, .int x3), (4, .int x4)]) 6 rfl rfl rfl (by decide) dX5_readChoice_109 ?_
            refine sim_goto (tgt := 30) dX5_readChoice_112 (by decide) ?_
            refine sim_sub [2, 3, 4, 5, 6, 1, 0] rfl ?_
            exact hR x4 w9 (x6 + 1) g8
          · refine sim_aload_n 1 rfl dX5_readChoice_91 ?_
            refine sim_getR flX5_12 rfl rfl dX5_readChoice_92 ?_
            refine sim_iconst (v := 3) (by decide) dX5_readChoice_95 ?_
            refine sim_iconst (v := 0) (by decide) dX5_readChoice_96 ?_
            refine sim_cV (As := [.int (3 : Int32), .int (0 : Int32)]) (st := []) (r := (some (.int ((fX4_emit (3 : Int32) (0 : Int32) g8).1)))) (h1 := (fX4_emit (3 : Int32) (0 : Int32) g8).2) (okX4_emit (3 : Int32) (0 : Int32) g8) (fun _ => rfl) mlX5_98 mtX4_emit rfl rfl rfl rfl (by omega) rfl (Nat.le_of_ble_eq_true rfl) dX5_readChoice_97 ?_
            refine sim_nmP (fun b12 => ?_)
            refine sim_istore (L' := [(4, .int b12.1), (5, .int w9), (0, .ref 34), (1, .int x1), (2, .int x2), (3, .int x3), (6, .int x6)]) rfl (by decide) dX5_readChoice_100 ?_
            refine sim_aload_n 2 rfl dX5_readChoice_102 ?_
            refine sim_getR flX5_22 rfl rfl dX5_readChoice_103 ?_
            refine sim_cV (As := []) (st := []) (r := none) (h1 := (fX10_step b12.2)) (okX10_step b12.2) (fun _ => rfl) mlX5_86 mtX10_step rfl rfl rfl rfl (by omega) rfl (Nat.le_of_ble_eq_true rfl) dX5_readChoice_106 ?_
            refine sim_nmH (fun g13 => ?_)
            refine sim_iinc (v := x6 + 1) (L' := [(6, .int (x6 + 1)), (4, .int b12.1), (5, .int w9), (0, .ref 34), (1, .int x1), (2, .int x2), (3, .int x3)]) 6 rfl rfl rfl (by decide) dX5_readChoice_109 ?_
            refine sim_goto (tgt := 30) dX5_readChoice_112 (by decide) ?_
            refine sim_sub [3, 4, 5, 6, 1, 2, 0] rfl ?_
            exact hR b12.1 w9 (x6 + 1) g13
        refine sim_icmp_ne (tgt := 83) dX5_readChoice_76 (by decide) (fun c14 => ?_) (fun c14 => ?_)
        · refine sim_iconst (v := 0) (by decide) dX5_readChoice_83 ?_
          refine sim_sub [0, 1, 2, 3, 4, 6] rfl ?_
          exact hJ10 (0 : Int32)
        · refine sim_iconst (v := 1) (by decide) dX5_readChoice_79 ?_
          refine sim_goto (tgt := 84) dX5_readChoice_80 (by decide) ?_
          refine sim_sub [0, 1, 2, 3, 4, 6] rfl ?_
          exact hJ10 (1 : Int32)
theorem sX5_readChoice_l30 (d : Nat) (rp : Int32 → AH → Option AH) (hrp : ∀ (p : Int32) (h b : AH), rp p h = some b → Ok yX5_readPiece cX5_readPiece 3 none (40 + 2 * d) [.ref 34, .int p] h (none, b)) {K115 : AH → Option AH} {x1 : Int32} {x2 : Int32} {x3 : Int32} (hK115 : ∀ (g : AH), Sim RX5 cX5_readChoice 7 none (41 + 2 * d) (Option.map oV) (K115 g) 115 [(0, .ref 34), (1, .int x1), (2, .int x2), (3, .int x3)] [] g) : ∀ (n : Nat) (x4 : Int32) (x5 : Int32) (x6 : Int32) (h : AH), Sim RX5 cX5_readChoice 7 none (41 + 2 * d) (Option.map oV) (fX5_readChoice_l30 rp K115 x1 x2 x3 n x4 x5 x6 h) 30 [(0, .ref 34), (1, .int x1), (2, .int x2), (3, .int x3), (4, .int x4), (5, .int x5), (6, .int x6)] [] h := by
  intro n
  induction n with
  | zero => intro x4 x5 x6 h; exact sim_none
  | succ n ih => intro x4 x5 x6 h; exact sX5_readChoice_l30b d rp hrp ih hK115 x4 x5 x6 h
def fX5_readChoice_l4b (rp : Int32 → AH → Option AH) (rec : Int32 → Int32 → AH → Option AH) (x1 : Int32) (x2 : Int32) (x3 : Int32) (h : AH) : Option AH :=
  if x3 < (200 : Int32) then
    if (fX10_isSound h) = 0 then
      some h
    else
      fX5_readChoice_l30 rp (fun (g15 : AH) =>
        letT (fX4_aimHere x2 g15) (fun g16 =>
        if (g16.1 1 3) = (124 : Int32) then
          letT (fX4_emit (4 : Int32) (0 : Int32) g16) (fun b18 =>
          letT (fX10_step b18.2) (fun g19 =>
          rec b18.1 (x3 + 1) g19))
        else
          some g16)) x1 x2 x3 fuel0 (-1 : Int32) (1 : Int32) (0 : Int32) h
  else
    some h
def fX5_readChoice_l4 (rp : Int32 → AH → Option AH) (x1 : Int32) : Nat → Int32 → Int32 → AH → Option AH
  | 0, _, _, _ => none
  | n + 1, x2, x3, h => fX5_readChoice_l4b rp (fX5_readChoice_l4 rp x1 n) x1 x2 x3 h
theorem sX5_readChoice_l4b (d : Nat) (rp : Int32 → AH → Option AH) (hrp : ∀ (p : Int32) (h b : AH), rp p h = some b → Ok yX5_readPiece cX5_readPiece 3 none (40 + 2 * d) [.ref 34, .int p] h (none, b)) {rec : Int32 → Int32 → AH → Option AH} {x1 : Int32} (hR : ∀ (x2 : Int32) (x3 : Int32) (h : AH), Sim RX5 cX5_readChoice 7 none (41 + 2 * d) (Option.map oV) (rec x2 x3 h) 4 [(0, .ref 34), (1, .int x1), (2, .int x2), (3, .int x3)] [] h) : ∀ (x2 : Int32) (x3 : Int32) (h : AH), Sim RX5 cX5_readChoice 7 none (41 + 2 * d) (Option.map oV) (fX5_readChoice_l4b rp rec x1 x2 x3 h) 4 [(0, .ref 34), (1, .int x1), (2, .int x2), (3, .int x3)] [] h := by
  intro x2 x3 h
  unfold fX5_readChoice_l4b
  refine sim_iload_n 3 rfl dX5_readChoice_4 ?_
  refine sim_sipush (v := 200) (by decide) dX5_readChoice_5 ?_
  refine sim_icmp_ge (tgt := 159) dX5_readChoice_8 (by decide) (fun c1 => ?_) (fun c1 => ?_)
  · exact sim_vret rfl rfl dX5_readChoice_159
  · refine sim_aload_n 0 rfl dX5_readChoice_11 ?_
    refine sim_getR flX5_22 rfl rfl dX5_readChoice_12 ?_
    refine sim_cV (As := []) (st := []) (r := (some (.int (fX10_isSound h)))) (h1 := h) (okX10_isSound h) (fun _ => rfl) mlX5_51 mtX10_isSound rfl rfl rfl rfl (by omega) rfl (Nat.le_of_ble_eq_true rfl) dX5_readChoice_15 ?_
    refine sim_if_eq (tgt := 159) dX5_readChoice_18 (by decide) (fun c2 => ?_) (fun c2 => ?_)
    · exact sim_vret rfl rfl dX5_readChoice_159
    · refine sim_iconst (v := -1) (by decide) dX5_readChoice_21 ?_
      refine sim_istore (L' := [(4, .int (-1 : Int32)), (0, .ref 34), (1, .int x1), (2, .int x2), (3, .int x3)]) rfl (by decide) dX5_readChoice_22 ?_
      refine sim_iconst (v := 1) (by decide) dX5_readChoice_24 ?_
      refine sim_istore (L' := [(5, .int (1 : Int32)), (4, .int (-1 : Int32)), (0, .ref 34), (1, .int x1), (2, .int x2), (3, .int x3)]) rfl (by decide) dX5_readChoice_25 ?_
      refine sim_iconst (v := 0) (by decide) dX5_readChoice_27 ?_
      refine sim_istore (L' := [(6, .int (0 : Int32)), (5, .int (1 : Int32)), (4, .int (-1 : Int32)), (0, .ref 34), (1, .int x1), (2, .int x2), (3, .int x3)]) rfl (by decide) dX5_readChoice_28 ?_
      refine sim_sub [3, 4, 5, 6, 2, 1, 0] rfl ?_
      refine sX5_readChoice_l30 d rp hrp (fun g15 => ?_) _ (-1 : Int32) (1 : Int32) (0 : Int32) h
      · refine sim_aload_n 0 rfl dX5_readChoice_115 ?_
        refine sim_getR flX5_12 rfl rfl dX5_readChoice_116 ?_
        refine sim_iload_n 2 rfl dX5_readChoice_119 ?_
        refine sim_cV (As := [.int x2]) (st := []) (r := none) (h1 := (fX4_aimHere x2 g15)) (okX4_aimHere x2 g15) (fun _ => rfl) mlX5_95 mtX4_aimHere rfl rfl rfl rfl (by omega) rfl (Nat.le_of_ble_eq_true rfl) dX5_readChoice_120 ?_
        refine sim_nmH (fun g16 => ?_)
        refine sim_aload_n 0 rfl dX5_readChoice_123 ?_
        refine sim_getR flX5_22 rfl rfl dX5_readChoice_124 ?_
        refine sim_getI flX5_83 rfl rfl dX5_readChoice_127 ?_
        refine sim_bipush (v := 124) (by decide) dX5_readChoice_130 ?_
        refine sim_icmp_eq (tgt := 136) dX5_readChoice_132 (by decide) (fun c17 => ?_) (fun c17 => ?_)
        · refine sim_aload_n 0 rfl dX5_readChoice_136 ?_
          refine sim_getR flX5_12 rfl rfl dX5_readChoice_137 ?_
          refine sim_iconst (v := 4) (by decide) dX5_readChoice_140 ?_
          refine sim_iconst (v := 0) (by decide) dX5_readChoice_141 ?_
          refine sim_cV (As := [.int (4 : Int32), .int (0 : Int32)]) (st := []) (r := (some (.int ((fX4_emit (4 : Int32) (0 : Int32) g16).1)))) (h1 := (fX4_emit (4 : Int32) (0 : Int32) g16).2) (okX4_emit (4 : Int32) (0 : Int32) g16) (fun _ => rfl) mlX5_98 mtX4_emit rfl rfl rfl rfl (by omega) rfl (Nat.le_of_ble_eq_true rfl) dX5_readChoice_142 ?_
          refine sim_nmP (fun b18 => ?_)
          refine sim_istore_n (L' := [(2, .int b18.1), (0, .ref 34), (1, .int x1), (3, .int x3)]) rfl (by decide) dX5_readChoice_145 ?_
          refine sim_aload_n 1 rfl dX5_readChoice_146 ?_
          refine sim_getR flX5_22 rfl rfl dX5_readChoice_147 ?_
          refine sim_cV (As := []) (st := []) (r := none) (h1 := (fX10_step b18.2)) (okX10_step b18.2) (fun _ => rfl) mlX5_86 mtX10_step rfl rfl rfl rfl (by omega) rfl (Nat.le_of_ble_eq_true rfl) dX5_readChoice_150 ?_
          refine sim_nmH (fun g19 => ?_)
          refine sim_iinc (v := x3 + 1) (L' := [(3, .int (x3 + 1)), (2, .int b18.1), (0, .ref 34), (1, .int x1)]) 3 rfl rfl rfl (by decide) dX5_readChoice_153 ?_
          refine sim_goto (tgt := 4) dX5_readChoice_156 (by decide) ?_
          refine sim_sub [2, 3, 1, 0] rfl ?_
          exact hR b18.1 (x3 + 1) g19
        · exact sim_vret rfl rfl dX5_readChoice_135
theorem sX5_readChoice_l4 (d : Nat) (rp : Int32 → AH → Option AH) (hrp : ∀ (p : Int32) (h b : AH), rp p h = some b → Ok yX5_readPiece cX5_readPiece 3 none (40 + 2 * d) [.ref 34, .int p] h (none, b)) {x1 : Int32} : ∀ (n : Nat) (x2 : Int32) (x3 : Int32) (h : AH), Sim RX5 cX5_readChoice 7 none (41 + 2 * d) (Option.map oV) (fX5_readChoice_l4 rp x1 n x2 x3 h) 4 [(0, .ref 34), (1, .int x1), (2, .int x2), (3, .int x3)] [] h := by
  intro n
  induction n with
  | zero => intro x2 x3 h; exact sim_none
  | succ n ih => intro x2 x3 h; exact sX5_readChoice_l4b d rp hrp ih x2 x3 h
def fX5_readChoice (rp : Int32 → AH → Option AH) (p1 : Int32) (h : AH) : Option AH :=
  fX5_readChoice_l4 rp p1 fuel0 (-1 : Int32) (0 : Int32) h
theorem sX5_readChoice (d : Nat) (rp : Int32 → AH → Option AH) (hrp : ∀ (p : Int32) (h b : AH), rp p h = some b → Ok yX5_readPiece cX5_readPiece 3 none (40 + 2 * d) [.ref 34, .int p] h (none, b)) (p1 : Int32) (h : AH) : Sim RX5 cX5_readChoice 7 none (41 + 2 * d) (Option.map oV) (fX5_readChoice rp p1 h) 0 [(0, .ref 34), (1, .int p1)] [] h := by
  unfold fX5_readChoice
  refine sim_iconst (v := -1) (by decide) dX5_readChoice_0 ?_
  refine sim_istore_n (L' := [(2, .int (-1 : Int32)), (0, .ref 34), (1, .int p1)]) rfl (by decide) dX5_readChoice_1 ?_
  refine sim_iconst (v := 0) (by decide) dX5_readChoice_2 ?_
  refine sim_istore_n (L' := [(3, .int (0 : Int32)), (2, .int (-1 : Int32)), (0, .ref 34), (1, .int p1)]) rfl (by decide) dX5_readChoice_3 ?_
  refine sim_sub [2, 3, 1, 0] rfl ?_
  refine sX5_readChoice_l4 d rp hrp _ (-1 : Int32) (0 : Int32) h
theorem okX5_readChoice (d : Nat) (rp : Int32 → AH → Option AH) (hrp : ∀ (p : Int32) (h b : AH), rp p h = some b → Ok yX5_readPiece cX5_readPiece 3 none (40 + 2 * d) [.ref 34, .int p] h (none, b)) (p1 : Int32) (h : AH) (b : AH) (e : fX5_readChoice rp p1 h = some b) : Ok yX5_readChoice cX5_readChoice 7 none (41 + 2 * d) [.ref 34, .int p1] h (none, b) := ok_of (sX5_readChoice d rp hrp p1 h) (by rw [e]; rfl) (by decide +kernel) (Nat.le_of_ble_eq_true rfl)
def fX5_number_l4b (rec : Int32 → Int32 → AH → Option (Int32 × AH)) (K48 : Int32 → AH → Option (Int32 × AH)) (x1 : Int32) (x2 : Int32) (h : AH) : Option (Int32 × AH) :=
  if x2 < (5 : Int32) then
    if (fX10_isAtDigit h) = 0 then
      K48 x1 h
    else
      letT ((((10 : Int32) * x1) + (h.1 1 3)) - (48 : Int32)) (fun v3 =>
      letT (fX10_step h) (fun g4 =>
      rec v3 (x2 + 1) g4))
  else
    K48 x1 h
def fX5_number_l4 (K48 : Int32 → AH → Option (Int32 × AH)) : Nat → Int32 → Int32 → AH → Option (Int32 × AH)
  | 0, _, _, _ => none
  | n + 1, x1, x2, h => fX5_number_l4b (fX5_number_l4 K48 n) K48 x1 x2 h
theorem sX5_number_l4b {rec : Int32 → Int32 → AH → Option (Int32 × AH)} {K48 : Int32 → AH → Option (Int32 × AH)} (hR : ∀ (x1 : Int32) (x2 : Int32) (h : AH), Sim RX5 cX5_number 3 (some .int) 2 (Option.map oI) (rec x1 x2 h) 4 [(0, .ref 34), (1, .int x1), (2, .int x2)] [] h) (hK48 : ∀ (y1 : Int32) (g : AH), Sim RX5 cX5_number 3 (some .int) 2 (Option.map oI) (K48 y1 g) 48 [(0, .ref 34), (1, .int y1)] [] g) : ∀ (x1 : Int32) (x2 : Int32) (h : AH), Sim RX5 cX5_number 3 (some .int) 2 (Option.map oI) (fX5_number_l4b rec K48 x1 x2 h) 4 [(0, .ref 34), (1, .int x1), (2, .int x2)] [] h := by
  intro x1 x2 h
  unfold fX5_number_l4b
  refine sim_iload_n 2 rfl dX5_number_4 ?_
  refine sim_iconst (v := 5) (by decide) dX5_number_5 ?_
  refine sim_icmp_ge (tgt := 48) dX5_number_6 (by decide) (fun c1 => ?_) (fun c1 => ?_)
  · refine sim_sub [0, 1] rfl ?_
    exact hK48 x1 h
  · refine sim_aload_n 0 rfl dX5_number_9 ?_
    refine sim_getR flX5_22 rfl rfl dX5_number_10 ?_
    refine sim_cV (As := []) (st := []) (r := (some (.int (fX10_isAtDigit h)))) (h1 := h) (okX10_isAtDigit h) (fun _ => rfl) mlX5_117 mtX10_isAtDigit rfl rfl rfl rfl (Nat.le_of_ble_eq_true rfl) rfl (Nat.le_of_ble_eq_true rfl) dX5_number_13 ?_
    refine sim_if_eq (tgt := 48) dX5_number_16 (by decide) (fun c2 => ?_) (fun c2 => ?_)
    · refine sim_sub [0, 1] rfl ?_
      exact hK48 x1 h
    · refine sim_bipush (v := 10) (by decide) dX5_number_19 ?_
      refine sim_iload_n 1 rfl dX5_number_21 ?_
      refine sim_imul dX5_number_22 ?_
      refine sim_aload_n 0 rfl dX5_number_23 ?_
      refine sim_getR flX5_22 rfl rfl dX5_number_24 ?_
      refine sim_getI flX5_83 rfl rfl dX5_number_27 ?_
      refine sim_iadd dX5_number_30 ?_
      refine sim_bipush (v := 48) (by decide) dX5_number_31 ?_
      refine sim_isub dX5_number_33 ?_
      refine sim_nmI (fun v3 => ?_)
      refine sim_istore_n (L' := [(1, .int v3), (0, .ref 34), (2, .int x2)]) rfl (by decide) dX5_number_34 ?_
      refine sim_aload_n 1 rfl dX5_number_35 ?_
      refine sim_getR flX5_22 rfl rfl dX5_number_36 ?_
      refine sim_cV (As := []) (st := []) (r := none) (h1 := (fX10_step h)) (okX10_step h) (fun _ => rfl) mlX5_86 mtX10_step rfl rfl rfl rfl (Nat.le_of_ble_eq_true rfl) rfl (Nat.le_of_ble_eq_true rfl) dX5_number_39 ?_
      refine sim_nmH (fun g4 => ?_)
      refine sim_iinc (v := x2 + 1) (L' := [(2, .int (x2 + 1)), (1, .int v3), (0, .ref 34)]) 2 rfl rfl rfl (by decide) dX5_number_42 ?_
      refine sim_goto (tgt := 4) dX5_number_45 (by decide) ?_
      refine sim_sub [2, 1, 0] rfl ?_
      exact hR v3 (x2 + 1) g4
theorem sX5_number_l4 {K48 : Int32 → AH → Option (Int32 × AH)} (hK48 : ∀ (y1 : Int32) (g : AH), Sim RX5 cX5_number 3 (some .int) 2 (Option.map oI) (K48 y1 g) 48 [(0, .ref 34), (1, .int y1)] [] g) : ∀ (n : Nat) (x1 : Int32) (x2 : Int32) (h : AH), Sim RX5 cX5_number 3 (some .int) 2 (Option.map oI) (fX5_number_l4 K48 n x1 x2 h) 4 [(0, .ref 34), (1, .int x1), (2, .int x2)] [] h := by
  intro n
  induction n with
  | zero => intro x1 x2 h; exact sim_none
  | succ n ih => intro x1 x2 h; exact sX5_number_l4b ih hK48 x1 x2 h
def fX5_number (h : AH) : Option (Int32 × AH) :=
  fX5_number_l4 (fun (y5 : Int32) (g6 : AH) =>
    if (fX10_isAtDigit g6) = 0 then
      some (y5, g6)
    else
      letT (fX10_fail (2 : Int32) (g6.1 1 2) g6) (fun g8 =>
      some (y5, g8))) fuel0 (0 : Int32) (0 : Int32) h
theorem sX5_number (h : AH) : Sim RX5 cX5_number 3 (some .int) 2 (Option.map oI) (fX5_number h) 0 [(0, .ref 34)] [] h := by
  unfold fX5_number
  refine sim_iconst (v := 0) (by decide) dX5_number_0 ?_
  refine sim_istore_n (L' := [(1, .int (0 : Int32)), (0, .ref 34)]) rfl (by decide) dX5_number_1 ?_
  refine sim_iconst (v := 0) (by decide) dX5_number_2 ?_
  refine sim_istore_n (L' := [(2, .int (0 : Int32)), (1, .int (0 : Int32)), (0, .ref 34)]) rfl (by decide) dX5_number_3 ?_
  refine sim_sub [2, 1, 0] rfl ?_
  refine sX5_number_l4 (fun y5 g6 => ?_) _ (0 : Int32) (0 : Int32) h
  · refine sim_aload_n 0 rfl dX5_number_48 ?_
    refine sim_getR flX5_22 rfl rfl dX5_number_49 ?_
    refine sim_cV (As := []) (st := []) (r := (some (.int (fX10_isAtDigit g6)))) (h1 := g6) (okX10_isAtDigit g6) (fun _ => rfl) mlX5_117 mtX10_isAtDigit rfl rfl rfl rfl (Nat.le_of_ble_eq_true rfl) rfl (Nat.le_of_ble_eq_true rfl) dX5_number_52 ?_
    refine sim_if_eq (tgt := 73) dX5_number_55 (by decide) (fun c7 => ?_) (fun c7 => ?_)
    · refine sim_iload_n 1 rfl dX5_number_73 ?_
      exact sim_iret rfl rfl dX5_number_74
    · refine sim_aload_n 0 rfl dX5_number_58 ?_
      refine sim_getR flX5_22 rfl rfl dX5_number_59 ?_
      refine sim_iconst (v := 2) (by decide) dX5_number_62 ?_
      refine sim_aload_n 0 rfl dX5_number_63 ?_
      refine sim_getR flX5_22 rfl rfl dX5_number_64 ?_
      refine sim_getI flX5_76 rfl rfl dX5_number_67 ?_
      refine sim_cV (As := [.int (2 : Int32), .int (g6.1 1 2)]) (st := []) (r := none) (h1 := (fX10_fail (2 : Int32) (g6.1 1 2) g6)) (okX10_fail (2 : Int32) (g6.1 1 2) g6) (fun _ => rfl) mlX5_79 mtX10_fail rfl rfl rfl rfl (Nat.le_of_ble_eq_true rfl) rfl (Nat.le_of_ble_eq_true rfl) dX5_number_70 ?_
      refine sim_nmH (fun g8 => ?_)
      refine sim_iload_n 1 rfl dX5_number_73 ?_
      exact sim_iret rfl rfl dX5_number_74
theorem okX5_number (h : AH) (b : Int32 × AH) (e : fX5_number h = some b) : Ok yX5_number cX5_number 3 (some .int) 2 [.ref 34] h (some (.int b.1), b.2) := ok_of (sX5_number h) (by rw [e]; rfl) (by decide +kernel) (Nat.le_of_ble_eq_true rfl)
def fX5_mayOpen (p1 : Int32) (h : AH) : Option (Int32 × AH) :=
  letT (fun (g1 : AH) =>
    letT (fX10_step g1) (fun g3 =>
    if (fX10_isSound g3) = 0 ∨ (fX10_isSound g3) = 1 then some (fX10_isSound g3, g3) else none)) (fun J2 =>
  if p1 < (6 : Int32) then
    J2 h
  else
    letT (fX10_fail (5 : Int32) (h.1 1 2) h) (fun g6 =>
    J2 g6))
theorem sX5_mayOpen (p1 : Int32) (h : AH) : Sim RX5 cX5_mayOpen 2 (some .boolean) 2 (Option.map oI) (fX5_mayOpen p1 h) 0 [(0, .ref 34), (1, .int p1)] [] h := by
  unfold fX5_mayOpen
  refine sim_iload_n 1 rfl dX5_mayOpen_0 ?_
  refine sim_bipush (v := 6) (by decide) dX5_mayOpen_1 ?_
  refine sim_letJ (fun J2 => ∀ (g1 : AH), Sim RX5 cX5_mayOpen 2 (some .boolean) 2 (Option.map oI) (J2 g1) 21 [(0, .ref 34)] [] g1) (fun g1 => ?_) (fun J2 hJ2 => ?_)
  · refine sim_aload_n 0 rfl dX5_mayOpen_21 ?_
    refine sim_getR flX5_22 rfl rfl dX5_mayOpen_22 ?_
    refine sim_cV (As := []) (st := []) (r := none) (h1 := (fX10_step g1)) (okX10_step g1) (fun _ => rfl) mlX5_86 mtX10_step rfl rfl rfl rfl (Nat.le_of_ble_eq_true rfl) rfl (Nat.le_of_ble_eq_true rfl) dX5_mayOpen_25 ?_
    refine sim_nmH (fun g3 => ?_)
    refine sim_aload_n 0 rfl dX5_mayOpen_28 ?_
    refine sim_getR flX5_22 rfl rfl dX5_mayOpen_29 ?_
    refine sim_cV (As := []) (st := []) (r := (some (.int (fX10_isSound g3)))) (h1 := g3) (okX10_isSound g3) (fun _ => rfl) mlX5_51 mtX10_isSound rfl rfl rfl rfl (Nat.le_of_ble_eq_true rfl) rfl (Nat.le_of_ble_eq_true rfl) dX5_mayOpen_32 ?_
    refine sim_guard (fun c4 => ?_)
    exact sim_zret rfl (nar_b c4) rfl dX5_mayOpen_35
  refine sim_icmp_lt (tgt := 21) dX5_mayOpen_3 (by decide) (fun c5 => ?_) (fun c5 => ?_)
  · refine sim_sub [0] rfl ?_
    exact hJ2 h
  · refine sim_aload_n 0 rfl dX5_mayOpen_6 ?_
    refine sim_getR flX5_22 rfl rfl dX5_mayOpen_7 ?_
    refine sim_iconst (v := 5) (by decide) dX5_mayOpen_10 ?_
    refine sim_aload_n 0 rfl dX5_mayOpen_11 ?_
    refine sim_getR flX5_22 rfl rfl dX5_mayOpen_12 ?_
    refine sim_getI flX5_76 rfl rfl dX5_mayOpen_15 ?_
    refine sim_cV (As := [.int (5 : Int32), .int (h.1 1 2)]) (st := []) (r := none) (h1 := (fX10_fail (5 : Int32) (h.1 1 2) h)) (okX10_fail (5 : Int32) (h.1 1 2) h) (fun _ => rfl) mlX5_79 mtX10_fail rfl rfl rfl rfl (Nat.le_of_ble_eq_true rfl) rfl (Nat.le_of_ble_eq_true rfl) dX5_mayOpen_18 ?_
    refine sim_nmH (fun g6 => ?_)
    refine sim_sub [0] rfl ?_
    exact hJ2 g6
theorem okX5_mayOpen (p1 : Int32) (h : AH) (b : Int32 × AH) (e : fX5_mayOpen p1 h = some b) : Ok yX5_mayOpen cX5_mayOpen 2 (some .boolean) 2 [.ref 34, .int p1] h (some (.int b.1), b.2) := ok_of (sX5_mayOpen p1 h) (by rw [e]; rfl) (by decide +kernel) (Nat.le_of_ble_eq_true rfl)
def fX5_readFactor (rs : Int32 → AH → Option AH) (p1 : Int32) (h : AH) : Option AH :=
  if (h.1 1 3) = (91 : Int32) then
    (fX5_mayOpen p1 h).bind (fun b18 =>
    if b18.1 = 0 then
      letT (fX10_expect (93 : Int32) b18.2) (fun g21 =>
      some g21)
    else
      (rs (p1 + (1 : Int32)) b18.2).bind (fun b22 =>
      letT (fX10_expect (93 : Int32) b22) (fun g24 =>
      some g24)))
  else
    if (fX10_isAtDigit h) = 0 then
      if (fX10_among 5 h) < 0 then
        letT (fX10_failHere h) (fun g4 =>
        some g4)
      else
        letT (fun (w5 : Int32) =>
          if w5 = 0 ∨ w5 = 1 then
          letT (sI h 35 1 w5) (fun g8 =>
          letT (fX4_emit (1 : Int32) (fX10_among 5 g8) g8) (fun b9 =>
          letT (fX10_step b9.2) (fun g10 =>
          some g10)))
          else none) (fun J6 =>
        letT (J6 (1 : Int32)) (fun J11 =>
        if (h.1 35 1) = 0 then
          if (h.1 34 2) = (114 : Int32) then
            if (h.1 1 3) = (118 : Int32) then
              J11
            else
              J6 (0 : Int32)
          else
            J6 (0 : Int32)
        else
          J11))
    else
      (fX5_number h).bind (fun b15 =>
      letT (fX4_emit (0 : Int32) b15.1 b15.2) (fun b17 =>
      some b17.2))
theorem sX5_readFactor (d : Nat) (rs : Int32 → AH → Option AH) (hrs : ∀ (p : Int32) (h b : AH), rs p h = some b → Ok yX5_readSum cX5_readSum 6 none (8 + 2 * d + 10) [.ref 34, .int p] h (none, b)) (p1 : Int32) (h : AH) : Sim RX5 cX5_readFactor 2 none (9 + 2 * d + 10) (Option.map oV) (fX5_readFactor rs p1 h) 0 [(0, .ref 34), (1, .int p1)] [] h := by
  unfold fX5_readFactor
  refine sim_aload_n 0 rfl dX5_readFactor_0 ?_
  refine sim_getR flX5_22 rfl rfl dX5_readFactor_1 ?_
  refine sim_getI flX5_83 rfl rfl dX5_readFactor_4 ?_
  refine sim_bipush (v := 91) (by decide) dX5_readFactor_7 ?_
  refine sim_icmp_ne (tgt := 39) dX5_readFactor_9 (by decide) (fun c1 => ?_) (fun c1 => ?_)
  · refine sim_aload_n 0 rfl dX5_readFactor_39 ?_
    refine sim_getR flX5_22 rfl rfl dX5_readFactor_40 ?_
    refine sim_cV (As := []) (st := []) (r := (some (.int (fX10_isAtDigit h)))) (h1 := h) (okX10_isAtDigit h) (fun _ => rfl) mlX5_117 mtX10_isAtDigit rfl rfl rfl rfl (by omega) rfl (Nat.le_of_ble_eq_true rfl) dX5_readFactor_43 ?_
    refine sim_if_eq (tgt := 65) dX5_readFactor_46 (by decide) (fun c2 => ?_) (fun c2 => ?_)
    · refine sim_aload_n 0 rfl dX5_readFactor_65 ?_
      refine sim_getR flX5_22 rfl rfl dX5_readFactor_66 ?_
      refine sim_ldcS 5 (by decide) rfl rfl dX5_readFactor_69 ?_
      refine sim_cV (As := [.ref 205]) (st := []) (r := (some (.int (fX10_among 5 h)))) (h1 := h) (okX10_among 5 (by decide) h) (fun _ => rfl) mlX5_69 mtX10_among rfl rfl rfl rfl (by omega) rfl (Nat.le_of_ble_eq_true rfl) dX5_readFactor_71 ?_
      refine sim_if_lt (tgt := 148) dX5_readFactor_74 (by decide) (fun c3 => ?_) (fun c3 => ?_)
      · refine sim_aload_n 0 rfl dX5_readFactor_148 ?_
        refine sim_getR flX5_22 rfl rfl dX5_readFactor_149 ?_
        refine sim_cV (As := []) (st := []) (r := none) (h1 := (fX10_failHere h)) (okX10_failHere h) (fun _ => rfl) mlX5_73 mtX10_failHere rfl rfl rfl rfl (by omega) rfl (Nat.le_of_ble_eq_true rfl) dX5_readFactor_152 ?_
        refine sim_nmH (fun g4 => ?_)
        exact sim_vret rfl rfl dX5_readFactor_155
      · refine sim_aload_n 0 rfl dX5_readFactor_77 ?_
        refine sim_getR flX5_12 rfl rfl dX5_readFactor_78 ?_
        refine sim_aload_n 0 rfl dX5_readFactor_81 ?_
        refine sim_getR flX5_12 rfl rfl dX5_readFactor_82 ?_
        refine sim_getI flX5_126 rfl rfl dX5_readFactor_85 ?_
        refine sim_letJ (fun J6 => ∀ (w5 : Int32), Sim RX5 cX5_readFactor 2 none (9 + 2 * d + 10) (Option.map oV) (J6 w5) 117 [(0, .ref 34)] [.int w5, .ref 35] h) (fun w5 => ?_) (fun J6 hJ6 => ?_)
        · refine sim_guard (fun c7 => ?_)
          refine sim_putI fpX5_126 (nar_b c7) (fit_b c7) rfl rfl dX5_readFactor_117 ?_
          refine sim_nmH (fun g8 => ?_)
          refine sim_aload_n 0 rfl dX5_readFactor_120 ?_
          refine sim_getR flX5_12 rfl rfl dX5_readFactor_121 ?_
          refine sim_iconst (v := 1) (by decide) dX5_readFactor_124 ?_
          refine sim_aload_n 0 rfl dX5_readFactor_125 ?_
          refine sim_getR flX5_22 rfl rfl dX5_readFactor_126 ?_
          refine sim_ldcS 5 (by decide) rfl rfl dX5_readFactor_129 ?_
          refine sim_cV (As := [.ref 205]) (st := [.int (1 : Int32), .ref 35]) (r := (some (.int (fX10_among 5 g8)))) (h1 := g8) (okX10_among 5 (by decide) g8) (fun _ => rfl) mlX5_69 mtX10_among rfl rfl rfl rfl (by omega) rfl (Nat.le_of_ble_eq_true rfl) dX5_readFactor_131 ?_
          refine sim_cV (As := [.int (1 : Int32), .int (fX10_among 5 g8)]) (st := []) (r := (some (.int ((fX4_emit (1 : Int32) (fX10_among 5 g8) g8).1)))) (h1 := (fX4_emit (1 : Int32) (fX10_among 5 g8) g8).2) (okX4_emit (1 : Int32) (fX10_among 5 g8) g8) (fun _ => rfl) mlX5_98 mtX4_emit rfl rfl rfl rfl (by omega) rfl (Nat.le_of_ble_eq_true rfl) dX5_readFactor_134 ?_
          refine sim_nmP (fun b9 => ?_)
          refine sim_pop dX5_readFactor_137 rfl ?_
          refine sim_aload_n 0 rfl dX5_readFactor_138 ?_
          refine sim_getR flX5_22 rfl rfl dX5_readFactor_139 ?_
          refine sim_cV (As := []) (st := []) (r := none) (h1 := (fX10_step b9.2)) (okX10_step b9.2) (fun _ => rfl) mlX5_86 mtX10_step rfl rfl rfl rfl (by omega) rfl (Nat.le_of_ble_eq_true rfl) dX5_readFactor_142 ?_
          refine sim_nmH (fun g10 => ?_)
          refine sim_goto (tgt := 155) dX5_readFactor_145 (by decide) ?_
          exact sim_vret rfl rfl dX5_readFactor_155
        refine sim_letJ (fun J11 => Sim RX5 cX5_readFactor 2 none (9 + 2 * d + 10) (Option.map oV) (J11) 112 [(0, .ref 34)] [.ref 35] h) (?_) (fun J11 hJ11 => ?_)
        · refine sim_iconst (v := 1) (by decide) dX5_readFactor_112 ?_
          refine sim_goto (tgt := 117) dX5_readFactor_113 (by decide) ?_
          exact hJ6 (1 : Int32)
        refine sim_if_ne (tgt := 112) dX5_readFactor_88 (by decide) (fun c12 => ?_) (fun c12 => ?_)
        · refine sim_sub [0] rfl ?_
          exact hJ11
        · refine sim_aload_n 0 rfl dX5_readFactor_91 ?_
          refine sim_getI flX5_18 rfl rfl dX5_readFactor_92 ?_
          refine sim_bipush (v := 114) (by decide) dX5_readFactor_95 ?_
          refine sim_icmp_ne (tgt := 116) dX5_readFactor_97 (by decide) (fun c13 => ?_) (fun c13 => ?_)
          · refine sim_iconst (v := 0) (by decide) dX5_readFactor_116 ?_
            refine sim_sub [0] rfl ?_
            exact hJ6 (0 : Int32)
          · refine sim_aload_n 0 rfl dX5_readFactor_100 ?_
            refine sim_getR flX5_22 rfl rfl dX5_readFactor_101 ?_
            refine sim_getI flX5_83 rfl rfl dX5_readFactor_104 ?_
            refine sim_bipush (v := 118) (by decide) dX5_readFactor_107 ?_
            refine sim_icmp_ne (tgt := 116) dX5_readFactor_109 (by decide) (fun c14 => ?_) (fun c14 => ?_)
            · refine sim_iconst (v := 0) (by decide) dX5_readFactor_116 ?_
              refine sim_sub [0] rfl ?_
              exact hJ6 (0 : Int32)
            · refine sim_sub [0] rfl ?_
              exact hJ11
    · refine sim_aload_n 0 rfl dX5_readFactor_49 ?_
      refine sim_getR flX5_12 rfl rfl dX5_readFactor_50 ?_
      refine sim_iconst (v := 0) (by decide) dX5_readFactor_53 ?_
      refine sim_aload_n 0 rfl dX5_readFactor_54 ?_
      refine sim_bind (fun b15 e16 => ?_)
      refine sim_cV (As := []) (st := [.int (0 : Int32), .ref 35]) (r := (some (.int b15.1))) (h1 := b15.2) (okX5_number h b15 e16) (fun _ => rfl) mlX5_120 mtX5_number rfl rfl rfl rfl (by omega) rfl (Nat.le_of_ble_eq_true rfl) dX5_readFactor_55 ?_
      refine sim_cV (As := [.int (0 : Int32), .int b15.1]) (st := []) (r := (some (.int ((fX4_emit (0 : Int32) b15.1 b15.2).1)))) (h1 := (fX4_emit (0 : Int32) b15.1 b15.2).2) (okX4_emit (0 : Int32) b15.1 b15.2) (fun _ => rfl) mlX5_98 mtX4_emit rfl rfl rfl rfl (by omega) rfl (Nat.le_of_ble_eq_true rfl) dX5_readFactor_58 ?_
      refine sim_nmP (fun b17 => ?_)
      refine sim_pop dX5_readFactor_61 rfl ?_
      refine sim_goto (tgt := 155) dX5_readFactor_62 (by decide) ?_
      exact sim_vret rfl rfl dX5_readFactor_155
  · refine sim_aload_n 0 rfl dX5_readFactor_12 ?_
    refine sim_iload_n 1 rfl dX5_readFactor_13 ?_
    refine sim_bind (fun b18 e19 => ?_)
    refine sim_cV (As := [.int p1]) (st := []) (r := (some (.int b18.1))) (h1 := b18.2) (okX5_mayOpen p1 h b18 e19) (fun _ => rfl) mlX5_102 mtX5_mayOpen rfl rfl rfl rfl (by omega) rfl (Nat.le_of_ble_eq_true rfl) dX5_readFactor_14 ?_
    refine sim_if_eq (tgt := 27) dX5_readFactor_17 (by decide) (fun c20 => ?_) (fun c20 => ?_)
    · refine sim_aload_n 0 rfl dX5_readFactor_27 ?_
      refine sim_getR flX5_22 rfl rfl dX5_readFactor_28 ?_
      refine sim_bipush (v := 93) (by decide) dX5_readFactor_31 ?_
      refine sim_cV (As := [.int (93 : Int32)]) (st := []) (r := none) (h1 := (fX10_expect (93 : Int32) b18.2)) (okX10_expect (93 : Int32) b18.2) (fun _ => rfl) mlX5_44 mtX10_expect rfl rfl rfl rfl (by omega) rfl (Nat.le_of_ble_eq_true rfl) dX5_readFactor_33 ?_
      refine sim_nmH (fun g21 => ?_)
      refine sim_goto (tgt := 155) dX5_readFactor_36 (by decide) ?_
      exact sim_vret rfl rfl dX5_readFactor_155
    · refine sim_aload_n 0 rfl dX5_readFactor_20 ?_
      refine sim_iload_n 1 rfl dX5_readFactor_21 ?_
      refine sim_iconst (v := 1) (by decide) dX5_readFactor_22 ?_
      refine sim_iadd dX5_readFactor_23 ?_
      refine sim_bind (fun b22 e23 => ?_)
      refine sim_cV (As := [.int (p1 + (1 : Int32))]) (st := []) (r := none) (h1 := b22) (hrs (p1 + (1 : Int32)) b18.2 b22 e23) (fun _ => rfl) mlX5_38 mtX5_readSum rfl rfl rfl rfl (by omega) rfl (Nat.le_of_ble_eq_true rfl) dX5_readFactor_24 ?_
      refine sim_aload_n 0 rfl dX5_readFactor_27 ?_
      refine sim_getR flX5_22 rfl rfl dX5_readFactor_28 ?_
      refine sim_bipush (v := 93) (by decide) dX5_readFactor_31 ?_
      refine sim_cV (As := [.int (93 : Int32)]) (st := []) (r := none) (h1 := (fX10_expect (93 : Int32) b22)) (okX10_expect (93 : Int32) b22) (fun _ => rfl) mlX5_44 mtX10_expect rfl rfl rfl rfl (by omega) rfl (Nat.le_of_ble_eq_true rfl) dX5_readFactor_33 ?_
      refine sim_nmH (fun g24 => ?_)
      refine sim_goto (tgt := 155) dX5_readFactor_36 (by decide) ?_
      exact sim_vret rfl rfl dX5_readFactor_155
theorem okX5_readFactor (d : Nat) (rs : Int32 → AH → Option AH) (hrs : ∀ (p : Int32) (h b : AH), rs p h = some b → Ok yX5_readSum cX5_readSum 6 none (8 + 2 * d + 10) [.ref 34, .int p] h (none, b)) (p1 : Int32) (h : AH) (b : AH) (e : fX5_readFactor rs p1 h = some b) : Ok yX5_readFactor cX5_readFactor 2 none (9 + 2 * d + 10) [.ref 34, .int p1] h (none, b) := ok_of (sX5_readFactor d rs hrs p1 h) (by rw [e]; rfl) (by decide +kernel) (Nat.le_of_ble_eq_true rfl)
end
