noncomputable section
def fX11_blind_l44b (rec : Int32 → Int32 → AH → Option (Int32 × AH)) (x1 : Int32) (x2 : Int32) (x3 : Int32) (x4 : Int32) (h : AH) : Option (Int32 × AH) :=
  if x4 < (h.1 3 0) then
    if x4 = (fX11_at 49 x1 h) then
      rec x3 (x4 + 1) h
    else
      (fX11_copyRow 49 50 h).bind (fun b6 =>
      (fX9_slipIn x1 x4 50 b6).bind (fun b8 =>
      if (fX11_at 50 x2 b8) = (fX11_at 49 x2 b8) then
        letT (x3 + (1 : Int32)) (fun v12 =>
        rec v12 (x4 + 1) b8)
      else
        letT (x3 + (0 : Int32)) (fun v11 =>
        rec v11 (x4 + 1) b8)))
  else
    some (x3, h)
def fX11_blind_l44 (x1 : Int32) (x2 : Int32) : Nat → Int32 → Int32 → AH → Option (Int32 × AH)
  | 0, _, _, _ => none
  | n + 1, x3, x4, h => fX11_blind_l44b (fX11_blind_l44 x1 x2 n) x1 x2 x3 x4 h
theorem sX11_blind_l44b {rec : Int32 → Int32 → AH → Option (Int32 × AH)} {x1 : Int32} {x2 : Int32} (hR : ∀ (x3 : Int32) (x4 : Int32) (h : AH), Sim RX11 cX11_blind 5 (some .int) 6 (Option.map oI) (rec x3 x4 h) 44 [(0, .ref 0), (1, .int x1), (2, .int x2), (3, .int x3), (4, .int x4)] [] h) : ∀ (x3 : Int32) (x4 : Int32) (h : AH), Sim RX11 cX11_blind 5 (some .int) 6 (Option.map oI) (fX11_blind_l44b rec x1 x2 x3 x4 h) 44 [(0, .ref 0), (1, .int x1), (2, .int x2), (3, .int x3), (4, .int x4)] [] h := by
  intro x3 x4 h
  unfold fX11_blind_l44b
  refine sim_iload 4 rfl dX11_blind_44 ?_
  refine sim_aload_n 0 rfl dX11_blind_46 ?_
  refine sim_getR flX11_19 rfl rfl dX11_blind_47 ?_
  refine sim_getI flX11_123 rfl rfl dX11_blind_50 ?_
  refine sim_icmp_ge (tgt := 127) dX11_blind_53 (by decide) (fun c4 => ?_) (fun c4 => ?_)
  · refine sim_iload_n 3 rfl dX11_blind_127 ?_
    exact sim_iret rfl rfl dX11_blind_128
  · refine sim_iload 4 rfl dX11_blind_56 ?_
    refine sim_aload_n 0 rfl dX11_blind_58 ?_
    refine sim_getR flX11_53 rfl rfl dX11_blind_59 ?_
    refine sim_iload_n 1 rfl dX11_blind_62 ?_
    refine sim_cS (As := [.ref 49, .int x1]) (st := [.int x4]) (r := (some (.int (fX11_at 49 x1 h)))) (h1 := h) (okX11_at 49 rfl x1 h) (fun _ => rfl) mlX11_164 mtX11_at rfl (Nat.le_of_ble_eq_true rfl) rfl (Nat.le_of_ble_eq_true rfl) dX11_blind_63 ?_
    refine sim_icmp_eq (tgt := 121) dX11_blind_66 (by decide) (fun c5 => ?_) (fun c5 => ?_)
    · refine sim_iinc (v := x4 + 1) (L' := [(4, .int (x4 + 1)), (0, .ref 0), (1, .int x1), (2, .int x2), (3, .int x3)]) 4 rfl rfl rfl (by decide) dX11_blind_121 ?_
      refine sim_goto (tgt := 44) dX11_blind_124 (by decide) ?_
      refine sim_sub [1, 2, 3, 4, 0] rfl ?_
      exact hR x3 (x4 + 1) h
    · refine sim_aload_n 0 rfl dX11_blind_69 ?_
      refine sim_getR flX11_53 rfl rfl dX11_blind_70 ?_
      refine sim_aload_n 0 rfl dX11_blind_73 ?_
      refine sim_getR flX11_57 rfl rfl dX11_blind_74 ?_
      refine sim_bind (fun b6 e7 => ?_)
      refine sim_cS (As := [.ref 49, .ref 50]) (st := []) (r := none) (h1 := b6) (okX11_copyRow 49 rfl 50 rfl h b6 e7) (fun _ => rfl) mlX11_203 mtX11_copyRow rfl (Nat.le_of_ble_eq_true rfl) rfl (Nat.le_of_ble_eq_true rfl) dX11_blind_77 ?_
      refine sim_aload_n 0 rfl dX11_blind_80 ?_
      refine sim_getR flX11_19 rfl rfl dX11_blind_81 ?_
      refine sim_iload_n 1 rfl dX11_blind_84 ?_
      refine sim_iload 4 rfl dX11_blind_85 ?_
      refine sim_aload_n 0 rfl dX11_blind_87 ?_
      refine sim_getR flX11_57 rfl rfl dX11_blind_88 ?_
      refine sim_bind (fun b8 e9 => ?_)
      refine sim_cV (As := [.int x1, .int x4, .ref 50]) (st := []) (r := none) (h1 := b8) (okX9_slipIn x1 x4 50 rfl b6 b8 e9) (fun _ => rfl) mlX11_207 mtX9_slipIn rfl rfl rfl rfl (Nat.le_of_ble_eq_true rfl) rfl (Nat.le_of_ble_eq_true rfl) dX11_blind_91 ?_
      refine sim_iload_n 3 rfl dX11_blind_94 ?_
      refine sim_aload_n 0 rfl dX11_blind_95 ?_
      refine sim_getR flX11_57 rfl rfl dX11_blind_96 ?_
      refine sim_iload_n 2 rfl dX11_blind_99 ?_
      refine sim_cS (As := [.ref 50, .int x2]) (st := [.int x3]) (r := (some (.int (fX11_at 50 x2 b8)))) (h1 := b8) (okX11_at 50 rfl x2 b8) (fun _ => rfl) mlX11_164 mtX11_at rfl (Nat.le_of_ble_eq_true rfl) rfl (Nat.le_of_ble_eq_true rfl) dX11_blind_100 ?_
      refine sim_aload_n 0 rfl dX11_blind_103 ?_
      refine sim_getR flX11_53 rfl rfl dX11_blind_104 ?_
      refine sim_iload_n 2 rfl dX11_blind_107 ?_
      refine sim_cS (As := [.ref 49, .int x2]) (st := [.int (fX11_at 50 x2 b8), .int x3]) (r := (some (.int (fX11_at 49 x2 b8)))) (h1 := b8) (okX11_at 49 rfl x2 b8) (fun _ => rfl) mlX11_164 mtX11_at rfl (Nat.le_of_ble_eq_true rfl) rfl (Nat.le_of_ble_eq_true rfl) dX11_blind_108 ?_
      refine sim_icmp_ne (tgt := 118) dX11_blind_111 (by decide) (fun c10 => ?_) (fun c10 => ?_)
      · refine sim_iconst (v := 0) (by decide) dX11_blind_118 ?_
        refine sim_iadd dX11_blind_119 ?_
        refine sim_nmI (fun v11 => ?_)
        refine sim_istore_n (L' := [(3, .int v11), (0, .ref 0), (1, .int x1), (2, .int x2), (4, .int x4)]) rfl (by decide) dX11_blind_120 ?_
        refine sim_iinc (v := x4 + 1) (L' := [(4, .int (x4 + 1)), (3, .int v11), (0, .ref 0), (1, .int x1), (2, .int x2)]) 4 rfl rfl rfl (by decide) dX11_blind_121 ?_
        refine sim_goto (tgt := 44) dX11_blind_124 (by decide) ?_
        refine sim_sub [2, 3, 4, 1, 0] rfl ?_
        exact hR v11 (x4 + 1) b8
      · refine sim_iconst (v := 1) (by decide) dX11_blind_114 ?_
        refine sim_goto (tgt := 119) dX11_blind_115 (by decide) ?_
        refine sim_iadd dX11_blind_119 ?_
        refine sim_nmI (fun v12 => ?_)
        refine sim_istore_n (L' := [(3, .int v12), (0, .ref 0), (1, .int x1), (2, .int x2), (4, .int x4)]) rfl (by decide) dX11_blind_120 ?_
        refine sim_iinc (v := x4 + 1) (L' := [(4, .int (x4 + 1)), (3, .int v12), (0, .ref 0), (1, .int x1), (2, .int x2)]) 4 rfl rfl rfl (by decide) dX11_blind_121 ?_
        refine sim_goto (tgt := 44) dX11_blind_124 (by decide) ?_
        refine sim_sub [2, 3, 4, 1, 0] rfl ?_
        exact hR v12 (x4 + 1) b8
theorem sX11_blind_l44 {x1 : Int32} {x2 : Int32} : ∀ (n : Nat) (x3 : Int32) (x4 : Int32) (h : AH), Sim RX11 cX11_blind 5 (some .int) 6 (Option.map oI) (fX11_blind_l44 x1 x2 n x3 x4 h) 44 [(0, .ref 0), (1, .int x1), (2, .int x2), (3, .int x3), (4, .int x4)] [] h := by
  intro n
  induction n with
  | zero => intro x3 x4 h; exact sim_none
  | succ n ih => intro x3 x4 h; exact sX11_blind_l44b ih x3 x4 h
def fX11_blind (p1 : Int32) (h : AH) : Option (Int32 × AH) :=
  if (fX6_holds p1 h) = 0 then
    some ((-1 : Int32), h)
  else
    (fX9_workOn (0 : Int32) 49 h).bind (fun b2 =>
    fX11_blind_l44 p1 (fX6_last b2) fuel0 (0 : Int32) (0 : Int32) b2)
theorem sX11_blind (p1 : Int32) (h : AH) : Sim RX11 cX11_blind 5 (some .int) 6 (Option.map oI) (fX11_blind p1 h) 0 [(0, .ref 0), (1, .int p1)] [] h := by
  unfold fX11_blind
  refine sim_aload_n 0 rfl dX11_blind_0 ?_
  refine sim_getR flX11_19 rfl rfl dX11_blind_1 ?_
  refine sim_getR flX11_133 rfl rfl dX11_blind_4 ?_
  refine sim_iload_n 1 rfl dX11_blind_7 ?_
  refine sim_cV (As := [.int p1]) (st := []) (r := (some (.int (fX6_holds p1 h)))) (h1 := h) (okX6_holds p1 h) (fun _ => rfl) mlX11_155 mtX6_holds rfl rfl rfl rfl (Nat.le_of_ble_eq_true rfl) rfl (Nat.le_of_ble_eq_true rfl) dX11_blind_8 ?_
  refine sim_if_ne (tgt := 16) dX11_blind_11 (by decide) (fun c1 => ?_) (fun c1 => ?_)
  · refine sim_aload_n 0 rfl dX11_blind_16 ?_
    refine sim_getR flX11_19 rfl rfl dX11_blind_17 ?_
    refine sim_iconst (v := 0) (by decide) dX11_blind_20 ?_
    refine sim_aload_n 0 rfl dX11_blind_21 ?_
    refine sim_getR flX11_53 rfl rfl dX11_blind_22 ?_
    refine sim_bind (fun b2 e3 => ?_)
    refine sim_cV (As := [.int (0 : Int32), .ref 49]) (st := []) (r := none) (h1 := b2) (okX9_workOn (0 : Int32) 49 rfl h b2 e3) (fun _ => rfl) mlX11_174 mtX9_workOn rfl rfl rfl rfl (Nat.le_of_ble_eq_true rfl) rfl (Nat.le_of_ble_eq_true rfl) dX11_blind_25 ?_
    refine sim_aload_n 0 rfl dX11_blind_28 ?_
    refine sim_getR flX11_19 rfl rfl dX11_blind_29 ?_
    refine sim_getR flX11_133 rfl rfl dX11_blind_32 ?_
    refine sim_cV (As := []) (st := []) (r := (some (.int (fX6_last b2)))) (h1 := b2) (okX6_last b2) (fun _ => rfl) mlX11_211 mtX6_last rfl rfl rfl rfl (Nat.le_of_ble_eq_true rfl) rfl (Nat.le_of_ble_eq_true rfl) dX11_blind_35 ?_
    refine sim_istore_n (L' := [(2, .int (fX6_last b2)), (0, .ref 0), (1, .int p1)]) rfl (by decide) dX11_blind_38 ?_
    refine sim_iconst (v := 0) (by decide) dX11_blind_39 ?_
    refine sim_istore_n (L' := [(3, .int (0 : Int32)), (2, .int (fX6_last b2)), (0, .ref 0), (1, .int p1)]) rfl (by decide) dX11_blind_40 ?_
    refine sim_iconst (v := 0) (by decide) dX11_blind_41 ?_
    refine sim_istore (L' := [(4, .int (0 : Int32)), (3, .int (0 : Int32)), (2, .int (fX6_last b2)), (0, .ref 0), (1, .int p1)]) rfl (by decide) dX11_blind_42 ?_
    refine sim_sub [3, 4, 2, 1, 0] rfl ?_
    refine sX11_blind_l44 _ (0 : Int32) (0 : Int32) b2
  · refine sim_iconst (v := -1) (by decide) dX11_blind_14 ?_
    exact sim_iret rfl rfl dX11_blind_15
theorem okX11_blind (p1 : Int32) (h : AH) (b : Int32 × AH) (e : fX11_blind p1 h = some b) : Ok yX11_blind cX11_blind 5 (some .int) 6 [.ref 0, .int p1] h (some (.int b.1), b.2) := ok_of (sX11_blind p1 h) (by rw [e]; rfl) (by decide +kernel) (Nat.le_of_ble_eq_true rfl)
def fX6_standingOn_l6b (rec : Int32 → Int32 → Option Int32) (x1 : Int32) (h : AH) (x2 : Int32) (x3 : Int32) : Option Int32 :=
  if x3 < (h.1 6 0) then
    if (fX11_isIn (fX11_at 13 x3 h) x1 h) = 0 then
      rec x2 (x3 + 1)
    else
      letT (x2 ||| (fX11_bit x3 h)) (fun v4 =>
      rec v4 (x3 + 1))
  else
    some x2
def fX6_standingOn_l6 (x1 : Int32) (h : AH) : Nat → Int32 → Int32 → Option Int32
  | 0, _, _ => none
  | n + 1, x2, x3 => fX6_standingOn_l6b (fX6_standingOn_l6 x1 h n) x1 h x2 x3
theorem sX6_standingOn_l6b {rec : Int32 → Int32 → Option Int32} {x1 : Int32} {h : AH} (hR : ∀ (x2 : Int32) (x3 : Int32), Sim RX6 cX6_standingOn 4 (some .int) 2 (Option.map (pI h)) (rec x2 x3) 6 [(0, .ref 6), (1, .int x1), (2, .int x2), (3, .int x3)] [] h) : ∀ (x2 : Int32) (x3 : Int32), Sim RX6 cX6_standingOn 4 (some .int) 2 (Option.map (pI h)) (fX6_standingOn_l6b rec x1 h x2 x3) 6 [(0, .ref 6), (1, .int x1), (2, .int x2), (3, .int x3)] [] h := by
  intro x2 x3
  unfold fX6_standingOn_l6b
  refine sim_iload_n 3 rfl dX6_standingOn_6 ?_
  refine sim_aload_n 0 rfl dX6_standingOn_7 ?_
  refine sim_getI flX6_9 rfl rfl dX6_standingOn_8 ?_
  refine sim_icmp_ge (tgt := 42) dX6_standingOn_11 (by decide) (fun c2 => ?_) (fun c2 => ?_)
  · refine sim_iload_n 2 rfl dX6_standingOn_42 ?_
    exact sim_iret rfl rfl dX6_standingOn_43
  · refine sim_aload_n 0 rfl dX6_standingOn_14 ?_
    refine sim_getR flX6_34 rfl rfl dX6_standingOn_15 ?_
    refine sim_iload_n 3 rfl dX6_standingOn_18 ?_
    refine sim_cS (As := [.ref 13, .int x3]) (st := []) (r := (some (.int (fX11_at 13 x3 h)))) (h1 := h) (okX11_at 13 rfl x3 h) (fun _ => rfl) mlX6_49 mtX11_at rfl (Nat.le_of_ble_eq_true rfl) rfl (Nat.le_of_ble_eq_true rfl) dX6_standingOn_19 ?_
    refine sim_iload_n 1 rfl dX6_standingOn_22 ?_
    refine sim_cS (As := [.int (fX11_at 13 x3 h), .int x1]) (st := []) (r := (some (.int (fX11_isIn (fX11_at 13 x3 h) x1 h)))) (h1 := h) (okX11_isIn (fX11_at 13 x3 h) x1 h) (fun _ => rfl) mlX6_63 mtX11_isIn rfl (Nat.le_of_ble_eq_true rfl) rfl (Nat.le_of_ble_eq_true rfl) dX6_standingOn_23 ?_
    refine sim_if_eq (tgt := 36) dX6_standingOn_26 (by decide) (fun c3 => ?_) (fun c3 => ?_)
    · refine sim_iinc (v := x3 + 1) (L' := [(3, .int (x3 + 1)), (0, .ref 6), (1, .int x1), (2, .int x2)]) 3 rfl rfl rfl (by decide) dX6_standingOn_36 ?_
      refine sim_goto (tgt := 6) dX6_standingOn_39 (by decide) ?_
      refine sim_sub [1, 2, 3, 0] rfl ?_
      exact hR x2 (x3 + 1)
    · refine sim_iload_n 2 rfl dX6_standingOn_29 ?_
      refine sim_iload_n 3 rfl dX6_standingOn_30 ?_
      refine sim_cS (As := [.int x3]) (st := [.int x2]) (r := (some (.int (fX11_bit x3 h)))) (h1 := h) (okX11_bit x3 h) (fun _ => rfl) mlX6_59 mtX11_bit rfl (Nat.le_of_ble_eq_true rfl) rfl (Nat.le_of_ble_eq_true rfl) dX6_standingOn_31 ?_
      refine sim_ior dX6_standingOn_34 ?_
      refine sim_nmI (fun v4 => ?_)
      refine sim_istore_n (L' := [(2, .int v4), (0, .ref 6), (1, .int x1), (3, .int x3)]) rfl (by decide) dX6_standingOn_35 ?_
      refine sim_iinc (v := x3 + 1) (L' := [(3, .int (x3 + 1)), (2, .int v4), (0, .ref 6), (1, .int x1)]) 3 rfl rfl rfl (by decide) dX6_standingOn_36 ?_
      refine sim_goto (tgt := 6) dX6_standingOn_39 (by decide) ?_
      refine sim_sub [2, 3, 1, 0] rfl ?_
      exact hR v4 (x3 + 1)
theorem sX6_standingOn_l6 {x1 : Int32} {h : AH} : ∀ (n : Nat) (x2 : Int32) (x3 : Int32), Sim RX6 cX6_standingOn 4 (some .int) 2 (Option.map (pI h)) (fX6_standingOn_l6 x1 h n x2 x3) 6 [(0, .ref 6), (1, .int x1), (2, .int x2), (3, .int x3)] [] h := by
  intro n
  induction n with
  | zero => intro x2 x3; exact sim_none
  | succ n ih => intro x2 x3; exact sX6_standingOn_l6b ih x2 x3
def fX6_standingOn (p1 : Int32) (h : AH) : Option Int32 :=
  letT (p1 + (1 : Int32)) (fun v1 =>
  fX6_standingOn_l6 p1 h fuel0 (0 : Int32) v1)
theorem sX6_standingOn (p1 : Int32) (h : AH) : Sim RX6 cX6_standingOn 4 (some .int) 2 (Option.map (pI h)) (fX6_standingOn p1 h) 0 [(0, .ref 6), (1, .int p1)] [] h := by
  unfold fX6_standingOn
  refine sim_iconst (v := 0) (by decide) dX6_standingOn_0 ?_
  refine sim_istore_n (L' := [(2, .int (0 : Int32)), (0, .ref 6), (1, .int p1)]) rfl (by decide) dX6_standingOn_1 ?_
  refine sim_iload_n 2 rfl dX6_standingOn_2 ?_
  refine sim_iconst (v := 1) (by decide) dX6_standingOn_3 ?_
  refine sim_iadd dX6_standingOn_4 ?_
  refine sim_nmI (fun v1 => ?_)
  refine sim_istore_n (L' := [(3, .int v1), (2, .int (0 : Int32)), (0, .ref 6), (1, .int p1)]) rfl (by decide) dX6_standingOn_5 ?_
  refine sim_sub [2, 3, 1, 0] rfl ?_
  refine sX6_standingOn_l6 _ (0 : Int32) v1
theorem okX6_standingOn (p1 : Int32) (h : AH) (b : Int32) (e : fX6_standingOn p1 h = some b) : Ok yX6_standingOn cX6_standingOn 4 (some .int) 2 [.ref 6, .int p1] h (some (.int b), h) := ok_of (sX6_standingOn p1 h) (by rw [e]; rfl) (by decide +kernel) (Nat.le_of_ble_eq_true rfl)
def fX0_between (p1 : Int32) (h : AH) : Option Int32 :=
  (fX6_standingOn p1 h).bind (fun b1 =>
  some (b1 &&& ((fX11_at 13 (fX6_last h) h) ||| (fX11_bit (fX6_last h) h))))
theorem sX0_between (p1 : Int32) (h : AH) : Sim RX0 cX0_between 3 (some .int) 3 (Option.map (pI h)) (fX0_between p1 h) 0 [(0, .ref 6), (1, .int p1)] [] h := by
  unfold fX0_between
  refine sim_aload_n 0 rfl dX0_between_0 ?_
  refine sim_cV (As := []) (st := []) (r := (some (.int (fX6_last h)))) (h1 := h) (okX6_last h) (fun _ => rfl) mlX0_38 mtX6_last rfl rfl rfl rfl (Nat.le_of_ble_eq_true rfl) rfl (Nat.le_of_ble_eq_true rfl) dX0_between_1 ?_
  refine sim_istore_n (L' := [(2, .int (fX6_last h)), (0, .ref 6), (1, .int p1)]) rfl (by decide) dX0_between_4 ?_
  refine sim_aload_n 1 rfl dX0_between_5 ?_
  refine sim_iload_n 2 rfl dX0_between_6 ?_
  refine sim_bind (fun b1 e2 => ?_)
  refine sim_cV (As := [.int p1]) (st := []) (r := (some (.int b1))) (h1 := h) (okX6_standingOn p1 h b1 e2) (fun _ => rfl) mlX0_78 mtX6_standingOn rfl rfl rfl rfl (Nat.le_of_ble_eq_true rfl) rfl (Nat.le_of_ble_eq_true rfl) dX0_between_7 ?_
  refine sim_aload_n 1 rfl dX0_between_10 ?_
  refine sim_getR flX0_82 rfl rfl dX0_between_11 ?_
  refine sim_iload_n 0 rfl dX0_between_14 ?_
  refine sim_cS (As := [.ref 13, .int (fX6_last h)]) (st := [.int b1]) (r := (some (.int (fX11_at 13 (fX6_last h) h)))) (h1 := h) (okX11_at 13 rfl (fX6_last h) h) (fun _ => rfl) mlX0_56 mtX11_at rfl (Nat.le_of_ble_eq_true rfl) rfl (Nat.le_of_ble_eq_true rfl) dX0_between_15 ?_
  refine sim_iload_n 0 rfl dX0_between_18 ?_
  refine sim_cS (As := [.int (fX6_last h)]) (st := [.int (fX11_at 13 (fX6_last h) h), .int b1]) (r := (some (.int (fX11_bit (fX6_last h) h)))) (h1 := h) (okX11_bit (fX6_last h) h) (fun _ => rfl) mlX0_85 mtX11_bit rfl (Nat.le_of_ble_eq_true rfl) rfl (Nat.le_of_ble_eq_true rfl) dX0_between_19 ?_
  refine sim_ior dX0_between_22 ?_
  refine sim_iand dX0_between_23 ?_
  exact sim_iret rfl rfl dX0_between_24
theorem okX0_between (p1 : Int32) (h : AH) (b : Int32) (e : fX0_between p1 h = some b) : Ok yX0_between cX0_between 3 (some .int) 3 [.ref 6, .int p1] h (some (.int b), h) := ok_of (sX0_between p1 h) (by rw [e]; rfl) (by decide +kernel) (Nat.le_of_ble_eq_true rfl)
def fX0_cancels_l23b (rec : Int32 → AH → Option (Int32 × AH)) (K65 : AH → Option (Int32 × AH)) (x4 : Int32) (x5 : Int32) (x6 : Int32) (h : AH) : Option (Int32 × AH) :=
  if x5 < x6 then
    K65 h
  else
    if (fX11_isIn x4 x6 h) = 0 then
      rec (x6 + 1) h
    else
      letT (fX11_put 56 x6 (fX9_made x6 56 h) h) (fun g5 =>
      rec (x6 + 1) g5)
def fX0_cancels_l23 (K65 : AH → Option (Int32 × AH)) (x4 : Int32) (x5 : Int32) : Nat → Int32 → AH → Option (Int32 × AH)
  | 0, _, _ => none
  | n + 1, x6, h => fX0_cancels_l23b (fX0_cancels_l23 K65 x4 x5 n) K65 x4 x5 x6 h
theorem sX0_cancels_l23b {rec : Int32 → AH → Option (Int32 × AH)} {K65 : AH → Option (Int32 × AH)} {x4 : Int32} {x5 : Int32} (hR : ∀ (x6 : Int32) (h : AH), Sim RX0 cX0_cancels 7 (some .boolean) 4 (Option.map oI) (rec x6 h) 23 [(0, .ref 53), (1, .ref 3), (4, .int x4), (5, .int x5), (6, .int x6)] [] h) (hK65 : ∀ (g : AH), Sim RX0 cX0_cancels 7 (some .boolean) 4 (Option.map oI) (K65 g) 65 [(0, .ref 53), (5, .int x5)] [] g) : ∀ (x6 : Int32) (h : AH), Sim RX0 cX0_cancels 7 (some .boolean) 4 (Option.map oI) (fX0_cancels_l23b rec K65 x4 x5 x6 h) 23 [(0, .ref 53), (1, .ref 3), (4, .int x4), (5, .int x5), (6, .int x6)] [] h := by
  intro x6 h
  unfold fX0_cancels_l23b
  refine sim_iload 4 rfl dX0_cancels_23 ?_
  refine sim_iload 3 rfl dX0_cancels_25 ?_
  refine sim_icmp_gt (tgt := 65) dX0_cancels_27 (by decide) (fun c3 => ?_) (fun c3 => ?_)
  · refine sim_sub [0, 3] rfl ?_
    exact hK65 h
  · refine sim_iload 2 rfl dX0_cancels_30 ?_
    refine sim_iload 4 rfl dX0_cancels_32 ?_
    refine sim_cS (As := [.int x4, .int x6]) (st := []) (r := (some (.int (fX11_isIn x4 x6 h)))) (h1 := h) (okX11_isIn x4 x6 h) (fun _ => rfl) mlX0_88 mtX11_isIn rfl (Nat.le_of_ble_eq_true rfl) rfl (Nat.le_of_ble_eq_true rfl) dX0_cancels_34 ?_
    refine sim_if_eq (tgt := 59) dX0_cancels_37 (by decide) (fun c4 => ?_) (fun c4 => ?_)
    · refine sim_iinc (v := x6 + 1) (L' := [(6, .int (x6 + 1)), (0, .ref 53), (1, .ref 3), (4, .int x4), (5, .int x5)]) 4 rfl rfl rfl (by decide) dX0_cancels_59 ?_
      refine sim_goto (tgt := 23) dX0_cancels_62 (by decide) ?_
      refine sim_sub [1, 2, 3, 4, 0] rfl ?_
      exact hR (x6 + 1) h
    · refine sim_aload_n 0 rfl dX0_cancels_40 ?_
      refine sim_getR flX0_18 rfl rfl dX0_cancels_41 ?_
      refine sim_iload 4 rfl dX0_cancels_44 ?_
      refine sim_aload_n 1 rfl dX0_cancels_46 ?_
      refine sim_iload 4 rfl dX0_cancels_47 ?_
      refine sim_aload_n 0 rfl dX0_cancels_49 ?_
      refine sim_getR flX0_18 rfl rfl dX0_cancels_50 ?_
      refine sim_cV (As := [.int x6, .ref 56]) (st := [.int x6, .ref 56]) (r := (some (.int (fX9_made x6 56 h)))) (h1 := h) (okX9_made x6 56 rfl h) (fun _ => rfl) mlX0_92 mtX9_made rfl rfl rfl rfl (Nat.le_of_ble_eq_true rfl) rfl (Nat.le_of_ble_eq_true rfl) dX0_cancels_53 ?_
      refine sim_cS (As := [.ref 56, .int x6, .int (fX9_made x6 56 h)]) (st := []) (r := none) (h1 := (fX11_put 56 x6 (fX9_made x6 56 h) h)) (okX11_put 56 rfl x6 (fX9_made x6 56 h) h) (fun _ => rfl) mlX0_24 mtX11_put rfl (Nat.le_of_ble_eq_true rfl) rfl (Nat.le_of_ble_eq_true rfl) dX0_cancels_56 ?_
      refine sim_nmH (fun g5 => ?_)
      refine sim_iinc (v := x6 + 1) (L' := [(6, .int (x6 + 1)), (0, .ref 53), (1, .ref 3), (4, .int x4), (5, .int x5)]) 4 rfl rfl rfl (by decide) dX0_cancels_59 ?_
      refine sim_goto (tgt := 23) dX0_cancels_62 (by decide) ?_
      refine sim_sub [1, 2, 3, 4, 0] rfl ?_
      exact hR (x6 + 1) g5
theorem sX0_cancels_l23 {K65 : AH → Option (Int32 × AH)} {x4 : Int32} {x5 : Int32} (hK65 : ∀ (g : AH), Sim RX0 cX0_cancels 7 (some .boolean) 4 (Option.map oI) (K65 g) 65 [(0, .ref 53), (5, .int x5)] [] g) : ∀ (n : Nat) (x6 : Int32) (h : AH), Sim RX0 cX0_cancels 7 (some .boolean) 4 (Option.map oI) (fX0_cancels_l23 K65 x4 x5 n x6 h) 23 [(0, .ref 53), (1, .ref 3), (4, .int x4), (5, .int x5), (6, .int x6)] [] h := by
  intro n
  induction n with
  | zero => intro x6 h; exact sim_none
  | succ n ih => intro x6 h; exact sX0_cancels_l23b ih hK65 x6 h
def fX0_cancels (p2 : Int32) (p3 : Int32) (p4 : Int32) (h : AH) : Option (Int32 × AH) :=
  letT (fX11_put 56 p2 p3 h) (fun g1 =>
  letT (p2 + (1 : Int32)) (fun v2 =>
  fX0_cancels_l23 (fun (g6 : AH) =>
    if (fX11_at 56 (fX6_last h) g6) = (fX11_at 54 (fX6_last h) g6) then
      some ((1 : Int32), g6)
    else
      some ((0 : Int32), g6)) p4 (fX6_last h) fuel0 v2 g1))
theorem sX0_cancels (p2 : Int32) (p3 : Int32) (p4 : Int32) (h : AH) : Sim RX0 cX0_cancels 7 (some .boolean) 4 (Option.map oI) (fX0_cancels p2 p3 p4 h) 0 [(0, .ref 53), (1, .ref 3), (2, .int p2), (3, .int p3), (4, .int p4)] [] h := by
  unfold fX0_cancels
  refine sim_aload_n 1 rfl dX0_cancels_0 ?_
  refine sim_getR flX0_34 rfl rfl dX0_cancels_1 ?_
  refine sim_cV (As := []) (st := []) (r := (some (.int (fX6_last h)))) (h1 := h) (okX6_last h) (fun _ => rfl) mlX0_38 mtX6_last rfl rfl rfl rfl (Nat.le_of_ble_eq_true rfl) rfl (Nat.le_of_ble_eq_true rfl) dX0_cancels_4 ?_
  refine sim_istore (L' := [(5, .int (fX6_last h)), (0, .ref 53), (1, .ref 3), (2, .int p2), (3, .int p3), (4, .int p4)]) rfl (by decide) dX0_cancels_7 ?_
  refine sim_aload_n 1 rfl dX0_cancels_9 ?_
  refine sim_getR flX0_18 rfl rfl dX0_cancels_10 ?_
  refine sim_iload_n 3 rfl dX0_cancels_13 ?_
  refine sim_iload_n 4 rfl dX0_cancels_14 ?_
  refine sim_cS (As := [.ref 56, .int p2, .int p3]) (st := []) (r := none) (h1 := (fX11_put 56 p2 p3 h)) (okX11_put 56 rfl p2 p3 h) (fun _ => rfl) mlX0_24 mtX11_put rfl (Nat.le_of_ble_eq_true rfl) rfl (Nat.le_of_ble_eq_true rfl) dX0_cancels_15 ?_
  refine sim_nmH (fun g1 => ?_)
  refine sim_iload_n 3 rfl dX0_cancels_18 ?_
  refine sim_iconst (v := 1) (by decide) dX0_cancels_19 ?_
  refine sim_iadd dX0_cancels_20 ?_
  refine sim_nmI (fun v2 => ?_)
  refine sim_istore (L' := [(6, .int v2), (5, .int (fX6_last h)), (0, .ref 53), (1, .ref 3), (2, .int p2), (3, .int p3), (4, .int p4)]) rfl (by decide) dX0_cancels_21 ?_
  refine sim_sub [2, 3, 6, 1, 0] rfl ?_
  refine sX0_cancels_l23 (fun g6 => ?_) _ v2 g1
  · refine sim_aload_n 0 rfl dX0_cancels_65 ?_
    refine sim_getR flX0_18 rfl rfl dX0_cancels_66 ?_
    refine sim_iload 1 rfl dX0_cancels_69 ?_
    refine sim_cS (As := [.ref 56, .int (fX6_last h)]) (st := []) (r := (some (.int (fX11_at 56 (fX6_last h) g6)))) (h1 := g6) (okX11_at 56 rfl (fX6_last h) g6) (fun _ => rfl) mlX0_56 mtX11_at rfl (Nat.le_of_ble_eq_true rfl) rfl (Nat.le_of_ble_eq_true rfl) dX0_cancels_71 ?_
    refine sim_aload_n 0 rfl dX0_cancels_74 ?_
    refine sim_getR flX0_9 rfl rfl dX0_cancels_75 ?_
    refine sim_iload 1 rfl dX0_cancels_78 ?_
    refine sim_cS (As := [.ref 54, .int (fX6_last h)]) (st := [.int (fX11_at 56 (fX6_last h) g6)]) (r := (some (.int (fX11_at 54 (fX6_last h) g6)))) (h1 := g6) (okX11_at 54 rfl (fX6_last h) g6) (fun _ => rfl) mlX0_56 mtX11_at rfl (Nat.le_of_ble_eq_true rfl) rfl (Nat.le_of_ble_eq_true rfl) dX0_cancels_80 ?_
    refine sim_icmp_ne (tgt := 90) dX0_cancels_83 (by decide) (fun c7 => ?_) (fun c7 => ?_)
    · refine sim_iconst (v := 0) (by decide) dX0_cancels_90 ?_
      exact sim_zret rfl rfl rfl dX0_cancels_91
    · refine sim_iconst (v := 1) (by decide) dX0_cancels_86 ?_
      refine sim_goto (tgt := 91) dX0_cancels_87 (by decide) ?_
      exact sim_zret rfl rfl rfl dX0_cancels_91
theorem okX0_cancels (p2 : Int32) (p3 : Int32) (p4 : Int32) (h : AH) (b : Int32 × AH) (e : fX0_cancels p2 p3 p4 h = some b) : Ok yX0_cancels cX0_cancels 7 (some .boolean) 4 [.ref 53, .ref 3, .int p2, .int p3, .int p4] h (some (.int b.1), b.2) := ok_of (sX0_cancels p2 p3 p4 h) (by rw [e]; rfl) (by decide +kernel) (Nat.le_of_ble_eq_true rfl)
def fX0_trySeconds_l42b (rec : Int32 → AH → Option AH) (K154 : AH → Option AH) (x2 : Int32) (x3 : Int32) (x4 : Int32) (x5 : Int32) (x6 : Int32) (x7 : Int32) (h : AH) : Option AH :=
  if x7 < (h.1 3 0) then
    if (fX11_at 57 (0 : Int32) h) < x4 then
      if x7 = (fX11_at 55 x5 h) then
        rec (x7 + 1) h
      else
        (fX0_cancels x5 x7 x6 h).bind (fun b10 =>
        if b10.1 = 0 then
          rec (x7 + 1) b10.2
        else
          letT (fX11_put 57 (0 : Int32) ((fX11_at 57 (0 : Int32) b10.2) + (1 : Int32)) b10.2) (fun g13 =>
          letT (fX11_put 57 (1 : Int32) x2 g13) (fun g14 =>
          letT (fX11_put 57 (2 : Int32) x3 g14) (fun g15 =>
          letT (fX11_put 57 (3 : Int32) x5 g15) (fun g16 =>
          letT (fX11_put 57 (4 : Int32) x7 g16) (fun g17 =>
          rec (x7 + 1) g17))))))
    else
      K154 h
  else
    K154 h
def fX0_trySeconds_l42 (K154 : AH → Option AH) (x2 : Int32) (x3 : Int32) (x4 : Int32) (x5 : Int32) (x6 : Int32) : Nat → Int32 → AH → Option AH
  | 0, _, _ => none
  | n + 1, x7, h => fX0_trySeconds_l42b (fX0_trySeconds_l42 K154 x2 x3 x4 x5 x6 n) K154 x2 x3 x4 x5 x6 x7 h
theorem sX0_trySeconds_l42b {rec : Int32 → AH → Option AH} {K154 : AH → Option AH} {x2 : Int32} {x3 : Int32} {x4 : Int32} {x5 : Int32} {x6 : Int32} (hR : ∀ (x7 : Int32) (h : AH), Sim RX0 cX0_trySeconds 8 none 5 (Option.map oV) (rec x7 h) 42 [(0, .ref 53), (1, .ref 3), (2, .int x2), (3, .int x3), (4, .int x4), (5, .int x5), (6, .int x6), (7, .int x7)] [] h) (hK154 : ∀ (g : AH), Sim RX0 cX0_trySeconds 8 none 5 (Option.map oV) (K154 g) 154 [(0, .ref 53), (1, .ref 3), (2, .int x2), (3, .int x3), (4, .int x4), (5, .int x5)] [] g) : ∀ (x7 : Int32) (h : AH), Sim RX0 cX0_trySeconds 8 none 5 (Option.map oV) (fX0_trySeconds_l42b rec K154 x2 x3 x4 x5 x6 x7 h) 42 [(0, .ref 53), (1, .ref 3), (2, .int x2), (3, .int x3), (4, .int x4), (5, .int x5), (6, .int x6), (7, .int x7)] [] h := by
  intro x7 h
  unfold fX0_trySeconds_l42b
  refine sim_iload 7 rfl dX0_trySeconds_42 ?_
  refine sim_aload_n 1 rfl dX0_trySeconds_44 ?_
  refine sim_getI flX0_44 rfl rfl dX0_trySeconds_45 ?_
  refine sim_icmp_ge (tgt := 154) dX0_trySeconds_48 (by decide) (fun c7 => ?_) (fun c7 => ?_)
  · refine sim_sub [0, 1, 2, 3, 4, 5] rfl ?_
    exact hK154 h
  · refine sim_aload_n 0 rfl dX0_trySeconds_51 ?_
    refine sim_getR flX0_21 rfl rfl dX0_trySeconds_52 ?_
    refine sim_iconst (v := 0) (by decide) dX0_trySeconds_55 ?_
    refine sim_cS (As := [.ref 57, .int (0 : Int32)]) (st := []) (r := (some (.int (fX11_at 57 (0 : Int32) h)))) (h1 := h) (okX11_at 57 rfl (0 : Int32) h) (fun _ => rfl) mlX0_56 mtX11_at rfl (Nat.le_of_ble_eq_true rfl) rfl (Nat.le_of_ble_eq_true rfl) dX0_trySeconds_56 ?_
    refine sim_iload 4 rfl dX0_trySeconds_59 ?_
    refine sim_icmp_ge (tgt := 154) dX0_trySeconds_61 (by decide) (fun c8 => ?_) (fun c8 => ?_)
    · refine sim_sub [0, 1, 2, 3, 4, 5] rfl ?_
      exact hK154 h
    · refine sim_iload 7 rfl dX0_trySeconds_64 ?_
      refine sim_aload_n 0 rfl dX0_trySeconds_66 ?_
      refine sim_getR flX0_15 rfl rfl dX0_trySeconds_67 ?_
      refine sim_iload 5 rfl dX0_trySeconds_70 ?_
      refine sim_cS (As := [.ref 55, .int x5]) (st := [.int x7]) (r := (some (.int (fX11_at 55 x5 h)))) (h1 := h) (okX11_at 55 rfl x5 h) (fun _ => rfl) mlX0_56 mtX11_at rfl (Nat.le_of_ble_eq_true rfl) rfl (Nat.le_of_ble_eq_true rfl) dX0_trySeconds_72 ?_
      refine sim_icmp_eq (tgt := 148) dX0_trySeconds_75 (by decide) (fun c9 => ?_) (fun c9 => ?_)
      · refine sim_iinc (v := x7 + 1) (L' := [(7, .int (x7 + 1)), (0, .ref 53), (1, .ref 3), (2, .int x2), (3, .int x3), (4, .int x4), (5, .int x5), (6, .int x6)]) 7 rfl rfl rfl (by decide) dX0_trySeconds_148 ?_
        refine sim_goto (tgt := 42) dX0_trySeconds_151 (by decide) ?_
        refine sim_sub [1, 2, 3, 4, 5, 6, 7, 0] rfl ?_
        exact hR (x7 + 1) h
      · refine sim_aload_n 0 rfl dX0_trySeconds_78 ?_
        refine sim_aload_n 1 rfl dX0_trySeconds_79 ?_
        refine sim_iload 5 rfl dX0_trySeconds_80 ?_
        refine sim_iload 7 rfl dX0_trySeconds_82 ?_
        refine sim_iload 6 rfl dX0_trySeconds_84 ?_
        refine sim_bind (fun b10 e11 => ?_)
        refine sim_cV (As := [.ref 3, .int x5, .int x7, .int x6]) (st := []) (r := (some (.int b10.1))) (h1 := b10.2) (okX0_cancels x5 x7 x6 h b10 e11) (fun _ => rfl) mlX0_74 mtX0_cancels rfl rfl rfl rfl (Nat.le_of_ble_eq_true rfl) rfl (Nat.le_of_ble_eq_true rfl) dX0_trySeconds_86 ?_
        refine sim_if_eq (tgt := 148) dX0_trySeconds_89 (by decide) (fun c12 => ?_) (fun c12 => ?_)
        · refine sim_iinc (v := x7 + 1) (L' := [(7, .int (x7 + 1)), (0, .ref 53), (1, .ref 3), (2, .int x2), (3, .int x3), (4, .int x4), (5, .int x5), (6, .int x6)]) 7 rfl rfl rfl (by decide) dX0_trySeconds_148 ?_
          refine sim_goto (tgt := 42) dX0_trySeconds_151 (by decide) ?_
          refine sim_sub [1, 2, 3, 4, 5, 6, 7, 0] rfl ?_
          exact hR (x7 + 1) b10.2
        · refine sim_aload_n 0 rfl dX0_trySeconds_92 ?_
          refine sim_getR flX0_21 rfl rfl dX0_trySeconds_93 ?_
          refine sim_iconst (v := 0) (by decide) dX0_trySeconds_96 ?_
          refine sim_aload_n 0 rfl dX0_trySeconds_97 ?_
          refine sim_getR flX0_21 rfl rfl dX0_trySeconds_98 ?_
          refine sim_iconst (v := 0) (by decide) dX0_trySeconds_101 ?_
          refine sim_cS (As := [.ref 57, .int (0 : Int32)]) (st := [.int (0 : Int32), .ref 57]) (r := (some (.int (fX11_at 57 (0 : Int32) b10.2)))) (h1 := b10.2) (okX11_at 57 rfl (0 : Int32) b10.2) (fun _ => rfl) mlX0_56 mtX11_at rfl (Nat.le_of_ble_eq_true rfl) rfl (Nat.le_of_ble_eq_true rfl) dX0_trySeconds_102 ?_
          refine sim_iconst (v := 1) (by decide) dX0_trySeconds_105 ?_
          refine sim_iadd dX0_trySeconds_106 ?_
          refine sim_cS (As := [.ref 57, .int (0 : Int32), .int ((fX11_at 57 (0 : Int32) b10.2) + (1 : Int32))]) (st := []) (r := none) (h1 := (fX11_put 57 (0 : Int32) ((fX11_at 57 (0 : Int32) b10.2) + (1 : Int32)) b10.2)) (okX11_put 57 rfl (0 : Int32) ((fX11_at 57 (0 : Int32) b10.2) + (1 : Int32)) b10.2) (fun _ => rfl) mlX0_24 mtX11_put rfl (Nat.le_of_ble_eq_true rfl) rfl (Nat.le_of_ble_eq_true rfl) dX0_trySeconds_107 ?_
          refine sim_nmH (fun g13 => ?_)
          refine sim_aload_n 0 rfl dX0_trySeconds_110 ?_
          refine sim_getR flX0_21 rfl rfl dX0_trySeconds_111 ?_
          refine sim_iconst (v := 1) (by decide) dX0_trySeconds_114 ?_
          refine sim_iload_n 2 rfl dX0_trySeconds_115 ?_
          refine sim_cS (As := [.ref 57, .int (1 : Int32), .int x2]) (st := []) (r := none) (h1 := (fX11_put 57 (1 : Int32) x2 g13)) (okX11_put 57 rfl (1 : Int32) x2 g13) (fun _ => rfl) mlX0_24 mtX11_put rfl (Nat.le_of_ble_eq_true rfl) rfl (Nat.le_of_ble_eq_true rfl) dX0_trySeconds_116 ?_
          refine sim_nmH (fun g14 => ?_)
          refine sim_aload_n 0 rfl dX0_trySeconds_119 ?_
          refine sim_getR flX0_21 rfl rfl dX0_trySeconds_120 ?_
          refine sim_iconst (v := 2) (by decide) dX0_trySeconds_123 ?_
          refine sim_iload_n 3 rfl dX0_trySeconds_124 ?_
          refine sim_cS (As := [.ref 57, .int (2 : Int32), .int x3]) (st := []) (r := none) (h1 := (fX11_put 57 (2 : Int32) x3 g14)) (okX11_put 57 rfl (2 : Int32) x3 g14) (fun _ => rfl) mlX0_24 mtX11_put rfl (Nat.le_of_ble_eq_true rfl) rfl (Nat.le_of_ble_eq_true rfl) dX0_trySeconds_125 ?_
          refine sim_nmH (fun g15 => ?_)
          refine sim_aload_n 0 rfl dX0_trySeconds_128 ?_
          refine sim_getR flX0_21 rfl rfl dX0_trySeconds_129 ?_
          refine sim_iconst (v := 3) (by decide) dX0_trySeconds_132 ?_
          refine sim_iload 5 rfl dX0_trySeconds_133 ?_
          refine sim_cS (As := [.ref 57, .int (3 : Int32), .int x5]) (st := []) (r := none) (h1 := (fX11_put 57 (3 : Int32) x5 g15)) (okX11_put 57 rfl (3 : Int32) x5 g15) (fun _ => rfl) mlX0_24 mtX11_put rfl (Nat.le_of_ble_eq_true rfl) rfl (Nat.le_of_ble_eq_true rfl) dX0_trySeconds_135 ?_
          refine sim_nmH (fun g16 => ?_)
          refine sim_aload_n 0 rfl dX0_trySeconds_138 ?_
          refine sim_getR flX0_21 rfl rfl dX0_trySeconds_139 ?_
          refine sim_iconst (v := 4) (by decide) dX0_trySeconds_142 ?_
          refine sim_iload 7 rfl dX0_trySeconds_143 ?_
          refine sim_cS (As := [.ref 57, .int (4 : Int32), .int x7]) (st := []) (r := none) (h1 := (fX11_put 57 (4 : Int32) x7 g16)) (okX11_put 57 rfl (4 : Int32) x7 g16) (fun _ => rfl) mlX0_24 mtX11_put rfl (Nat.le_of_ble_eq_true rfl) rfl (Nat.le_of_ble_eq_true rfl) dX0_trySeconds_145 ?_
          refine sim_nmH (fun g17 => ?_)
          refine sim_iinc (v := x7 + 1) (L' := [(7, .int (x7 + 1)), (0, .ref 53), (1, .ref 3), (2, .int x2), (3, .int x3), (4, .int x4), (5, .int x5), (6, .int x6)]) 7 rfl rfl rfl (by decide) dX0_trySeconds_148 ?_
          refine sim_goto (tgt := 42) dX0_trySeconds_151 (by decide) ?_
          refine sim_sub [1, 2, 3, 4, 5, 6, 7, 0] rfl ?_
          exact hR (x7 + 1) g17
theorem sX0_trySeconds_l42 {K154 : AH → Option AH} {x2 : Int32} {x3 : Int32} {x4 : Int32} {x5 : Int32} {x6 : Int32} (hK154 : ∀ (g : AH), Sim RX0 cX0_trySeconds 8 none 5 (Option.map oV) (K154 g) 154 [(0, .ref 53), (1, .ref 3), (2, .int x2), (3, .int x3), (4, .int x4), (5, .int x5)] [] g) : ∀ (n : Nat) (x7 : Int32) (h : AH), Sim RX0 cX0_trySeconds 8 none 5 (Option.map oV) (fX0_trySeconds_l42 K154 x2 x3 x4 x5 x6 n x7 h) 42 [(0, .ref 53), (1, .ref 3), (2, .int x2), (3, .int x3), (4, .int x4), (5, .int x5), (6, .int x6), (7, .int x7)] [] h := by
  intro n
  induction n with
  | zero => intro x7 h; exact sim_none
  | succ n ih => intro x7 h; exact sX0_trySeconds_l42b ih hK154 x7 h
def fX0_trySeconds_l5b (rec : Int32 → AH → Option AH) (x2 : Int32) (x3 : Int32) (x4 : Int32) (x5 : Int32) (h : AH) : Option AH :=
  if x5 < (h.1 6 0) then
    (fX0_between x5 h).bind (fun b3 =>
    (fX11_copyRow 55 56 h).bind (fun b5 =>
    fX0_trySeconds_l42 (fun (g18 : AH) =>
      rec (x5 + 1) g18) x2 x3 x4 x5 b3 fuel0 (0 : Int32) b5))
  else
    some h
def fX0_trySeconds_l5 (x2 : Int32) (x3 : Int32) (x4 : Int32) : Nat → Int32 → AH → Option AH
  | 0, _, _ => none
  | n + 1, x5, h => fX0_trySeconds_l5b (fX0_trySeconds_l5 x2 x3 x4 n) x2 x3 x4 x5 h
theorem sX0_trySeconds_l5b {rec : Int32 → AH → Option AH} {x2 : Int32} {x3 : Int32} {x4 : Int32} (hR : ∀ (x5 : Int32) (h : AH), Sim RX0 cX0_trySeconds 8 none 5 (Option.map oV) (rec x5 h) 5 [(0, .ref 53), (1, .ref 3), (2, .int x2), (3, .int x3), (4, .int x4), (5, .int x5)] [] h) : ∀ (x5 : Int32) (h : AH), Sim RX0 cX0_trySeconds 8 none 5 (Option.map oV) (fX0_trySeconds_l5b rec x2 x3 x4 x5 h) 5 [(0, .ref 53), (1, .ref 3), (2, .int x2), (3, .int x3), (4, .int x4), (5, .int x5)] [] h := by
  intro x5 h
  unfold fX0_trySeconds_l5b
  refine sim_iload 5 rfl dX0_trySeconds_5 ?_
  refine sim_aload_n 1 rfl dX0_trySeconds_7 ?_
  refine sim_getR flX0_34 rfl rfl dX0_trySeconds_8 ?_
  refine sim_getI flX0_67 rfl rfl dX0_trySeconds_11 ?_
  refine sim_icmp_ge (tgt := 160) dX0_trySeconds_14 (by decide) (fun c2 => ?_) (fun c2 => ?_)
  · exact sim_vret rfl rfl dX0_trySeconds_160
  · refine sim_aload_n 1 rfl dX0_trySeconds_17 ?_
    refine sim_getR flX0_34 rfl rfl dX0_trySeconds_18 ?_
    refine sim_iload 5 rfl dX0_trySeconds_21 ?_
    refine sim_bind (fun b3 e4 => ?_)
    refine sim_cS (As := [.ref 6, .int x5]) (st := []) (r := (some (.int b3))) (h1 := h) (okX0_between x5 h b3 e4) (fun _ => rfl) mlX0_70 mtX0_between rfl (Nat.le_of_ble_eq_true rfl) rfl (Nat.le_of_ble_eq_true rfl) dX0_trySeconds_23 ?_
    refine sim_istore (L' := [(6, .int b3), (0, .ref 53), (1, .ref 3), (2, .int x2), (3, .int x3), (4, .int x4), (5, .int x5)]) rfl (by decide) dX0_trySeconds_26 ?_
    refine sim_aload_n 1 rfl dX0_trySeconds_28 ?_
    refine sim_getR flX0_15 rfl rfl dX0_trySeconds_29 ?_
    refine sim_aload_n 1 rfl dX0_trySeconds_32 ?_
    refine sim_getR flX0_18 rfl rfl dX0_trySeconds_33 ?_
    refine sim_bind (fun b5 e6 => ?_)
    refine sim_cS (As := [.ref 55, .ref 56]) (st := []) (r := none) (h1 := b5) (okX11_copyRow 55 rfl 56 rfl h b5 e6) (fun _ => rfl) mlX0_48 mtX11_copyRow rfl (Nat.le_of_ble_eq_true rfl) rfl (Nat.le_of_ble_eq_true rfl) dX0_trySeconds_36 ?_
    refine sim_iconst (v := 0) (by decide) dX0_trySeconds_39 ?_
    refine sim_istore (L' := [(7, .int (0 : Int32)), (6, .int b3), (0, .ref 53), (1, .ref 3), (2, .int x2), (3, .int x3), (4, .int x4), (5, .int x5)]) rfl (by decide) dX0_trySeconds_40 ?_
    refine sim_sub [2, 3, 4, 5, 6, 7, 1, 0] rfl ?_
    refine sX0_trySeconds_l42 (fun g18 => ?_) _ (0 : Int32) b5
    · refine sim_iinc (v := x5 + 1) (L' := [(5, .int (x5 + 1)), (0, .ref 53), (1, .ref 3), (2, .int x2), (3, .int x3), (4, .int x4)]) 5 rfl rfl rfl (by decide) dX0_trySeconds_154 ?_
      refine sim_goto (tgt := 5) dX0_trySeconds_157 (by decide) ?_
      refine sim_sub [1, 2, 3, 4, 5, 0] rfl ?_
      exact hR (x5 + 1) g18
theorem sX0_trySeconds_l5 {x2 : Int32} {x3 : Int32} {x4 : Int32} : ∀ (n : Nat) (x5 : Int32) (h : AH), Sim RX0 cX0_trySeconds 8 none 5 (Option.map oV) (fX0_trySeconds_l5 x2 x3 x4 n x5 h) 5 [(0, .ref 53), (1, .ref 3), (2, .int x2), (3, .int x3), (4, .int x4), (5, .int x5)] [] h := by
  intro n
  induction n with
  | zero => intro x5 h; exact sim_none
  | succ n ih => intro x5 h; exact sX0_trySeconds_l5b ih x5 h
def fX0_trySeconds (p2 : Int32) (p3 : Int32) (p4 : Int32) (h : AH) : Option AH :=
  letT (p2 + (1 : Int32)) (fun v1 =>
  fX0_trySeconds_l5 p2 p3 p4 fuel0 v1 h)
theorem sX0_trySeconds (p2 : Int32) (p3 : Int32) (p4 : Int32) (h : AH) : Sim RX0 cX0_trySeconds 8 none 5 (Option.map oV) (fX0_trySeconds p2 p3 p4 h) 0 [(0, .ref 53), (1, .ref 3), (2, .int p2), (3, .int p3), (4, .int p4)] [] h := by
  unfold fX0_trySeconds
  refine sim_iload_n 2 rfl dX0_trySeconds_0 ?_
  refine sim_iconst (v := 1) (by decide) dX0_trySeconds_1 ?_
  refine sim_iadd dX0_trySeconds_2 ?_
  refine sim_nmI (fun v1 => ?_)
  refine sim_istore (L' := [(5, .int v1), (0, .ref 53), (1, .ref 3), (2, .int p2), (3, .int p3), (4, .int p4)]) rfl (by decide) dX0_trySeconds_3 ?_
  refine sim_sub [1, 2, 3, 4, 5, 0] rfl ?_
  refine sX0_trySeconds_l5 _ v1 h
theorem okX0_trySeconds (p2 : Int32) (p3 : Int32) (p4 : Int32) (h : AH) (b : AH) (e : fX0_trySeconds p2 p3 p4 h = some b) : Ok yX0_trySeconds cX0_trySeconds 8 none 5 [.ref 53, .ref 3, .int p2, .int p3, .int p4] h (none, b) := ok_of (sX0_trySeconds p2 p3 p4 h) (by rw [e]; rfl) (by decide +kernel) (Nat.le_of_ble_eq_true rfl)
def fX0_answer_l38b (rec : Int32 → AH → Option (Int32 × AH)) (K123 : AH → Option (Int32 × AH)) (K138 : AH → Option (Int32 × AH)) (x2 : Int32) (x3 : Int32) (x4 : Int32) (x5 : Int32) (h : AH) : Option (Int32 × AH) :=
  if x5 < (h.1 3 0) then
    (fX11_copyRow 54 55 h).bind (fun b6 =>
    (fX9_slipIn x4 x5 55 b6).bind (fun b8 =>
    if (fX11_at 55 x3 b8) = (fX11_at 54 x3 b8) then
      if 0 < x2 then
        if 0 < (fX11_at 57 (0 : Int32) b8) then
          K123 b8
        else
          rec (x5 + 1) b8
      else
        rec (x5 + 1) b8
    else
      letT (fun (w13 : Int32) =>
        (fX0_trySeconds x4 x5 w13 b8).bind (fun b15 =>
        if 0 < x2 then
          if 0 < (fX11_at 57 (0 : Int32) b15) then
            K123 b15
          else
            rec (x5 + 1) b15
        else
          rec (x5 + 1) b15)) (fun J14 =>
      if x2 = 0 then
        J14 (2147483647 : Int32)
      else
        J14 (1 : Int32))))
  else
    K138 h
def fX0_answer_l38 (K123 : AH → Option (Int32 × AH)) (K138 : AH → Option (Int32 × AH)) (x2 : Int32) (x3 : Int32) (x4 : Int32) : Nat → Int32 → AH → Option (Int32 × AH)
  | 0, _, _ => none
  | n + 1, x5, h => fX0_answer_l38b (fX0_answer_l38 K123 K138 x2 x3 x4 n) K123 K138 x2 x3 x4 x5 h
theorem sX0_answer_l38b {rec : Int32 → AH → Option (Int32 × AH)} {K123 : AH → Option (Int32 × AH)} {K138 : AH → Option (Int32 × AH)} {x2 : Int32} {x3 : Int32} {x4 : Int32} (hR : ∀ (x5 : Int32) (h : AH), Sim RX0 cX0_answer 6 (some .int) 6 (Option.map oI) (rec x5 h) 38 [(0, .ref 53), (1, .ref 3), (2, .int x2), (3, .int x3), (4, .int x4), (5, .int x5)] [] h) (hK123 : ∀ (g : AH), Sim RX0 cX0_answer 6 (some .int) 6 (Option.map oI) (K123 g) 123 [(0, .ref 53), (2, .int x2)] [] g) (hK138 : ∀ (g : AH), Sim RX0 cX0_answer 6 (some .int) 6 (Option.map oI) (K138 g) 138 [(0, .ref 53), (1, .ref 3), (2, .int x2), (3, .int x3), (4, .int x4)] [] g) : ∀ (x5 : Int32) (h : AH), Sim RX0 cX0_answer 6 (some .int) 6 (Option.map oI) (fX0_answer_l38b rec K123 K138 x2 x3 x4 x5 h) 38 [(0, .ref 53), (1, .ref 3), (2, .int x2), (3, .int x3), (4, .int x4), (5, .int x5)] [] h := by
  intro x5 h
  unfold fX0_answer_l38b
  refine sim_iload 5 rfl dX0_answer_38 ?_
  refine sim_aload_n 1 rfl dX0_answer_40 ?_
  refine sim_getI flX0_44 rfl rfl dX0_answer_41 ?_
  refine sim_icmp_ge (tgt := 138) dX0_answer_44 (by decide) (fun c5 => ?_) (fun c5 => ?_)
  · refine sim_sub [0, 1, 2, 3, 4] rfl ?_
    exact hK138 h
  · refine sim_aload_n 0 rfl dX0_answer_47 ?_
    refine sim_getR flX0_9 rfl rfl dX0_answer_48 ?_
    refine sim_aload_n 0 rfl dX0_answer_51 ?_
    refine sim_getR flX0_15 rfl rfl dX0_answer_52 ?_
    refine sim_bind (fun b6 e7 => ?_)
    refine sim_cS (As := [.ref 54, .ref 55]) (st := []) (r := none) (h1 := b6) (okX11_copyRow 54 rfl 55 rfl h b6 e7) (fun _ => rfl) mlX0_48 mtX11_copyRow rfl (Nat.le_of_ble_eq_true rfl) rfl (Nat.le_of_ble_eq_true rfl) dX0_answer_55 ?_
    refine sim_aload_n 1 rfl dX0_answer_58 ?_
    refine sim_iload 4 rfl dX0_answer_59 ?_
    refine sim_iload 5 rfl dX0_answer_61 ?_
    refine sim_aload_n 0 rfl dX0_answer_63 ?_
    refine sim_getR flX0_15 rfl rfl dX0_answer_64 ?_
    refine sim_bind (fun b8 e9 => ?_)
    refine sim_cV (As := [.int x4, .int x5, .ref 55]) (st := []) (r := none) (h1 := b8) (okX9_slipIn x4 x5 55 rfl b6 b8 e9) (fun _ => rfl) mlX0_52 mtX9_slipIn rfl rfl rfl rfl (Nat.le_of_ble_eq_true rfl) rfl (Nat.le_of_ble_eq_true rfl) dX0_answer_67 ?_
    refine sim_aload_n 0 rfl dX0_answer_70 ?_
    refine sim_getR flX0_15 rfl rfl dX0_answer_71 ?_
    refine sim_iload_n 3 rfl dX0_answer_74 ?_
    refine sim_cS (As := [.ref 55, .int x3]) (st := []) (r := (some (.int (fX11_at 55 x3 b8)))) (h1 := b8) (okX11_at 55 rfl x3 b8) (fun _ => rfl) mlX0_56 mtX11_at rfl (Nat.le_of_ble_eq_true rfl) rfl (Nat.le_of_ble_eq_true rfl) dX0_answer_75 ?_
    refine sim_aload_n 0 rfl dX0_answer_78 ?_
    refine sim_getR flX0_9 rfl rfl dX0_answer_79 ?_
    refine sim_iload_n 3 rfl dX0_answer_82 ?_
    refine sim_cS (As := [.ref 54, .int x3]) (st := [.int (fX11_at 55 x3 b8)]) (r := (some (.int (fX11_at 54 x3 b8)))) (h1 := b8) (okX11_at 54 rfl x3 b8) (fun _ => rfl) mlX0_56 mtX11_at rfl (Nat.le_of_ble_eq_true rfl) rfl (Nat.le_of_ble_eq_true rfl) dX0_answer_83 ?_
    refine sim_icmp_eq (tgt := 108) dX0_answer_86 (by decide) (fun c10 => ?_) (fun c10 => ?_)
    · refine sim_iload_n 2 rfl dX0_answer_108 ?_
      refine sim_if_le (tgt := 132) dX0_answer_109 (by decide) (fun c11 => ?_) (fun c11 => ?_)
      · refine sim_iinc (v := x5 + 1) (L' := [(5, .int (x5 + 1)), (0, .ref 53), (1, .ref 3), (2, .int x2), (3, .int x3), (4, .int x4)]) 5 rfl rfl rfl (by decide) dX0_answer_132 ?_
        refine sim_goto (tgt := 38) dX0_answer_135 (by decide) ?_
        refine sim_sub [1, 2, 3, 4, 5, 0] rfl ?_
        exact hR (x5 + 1) b8
      · refine sim_aload_n 0 rfl dX0_answer_112 ?_
        refine sim_getR flX0_21 rfl rfl dX0_answer_113 ?_
        refine sim_iconst (v := 0) (by decide) dX0_answer_116 ?_
        refine sim_cS (As := [.ref 57, .int (0 : Int32)]) (st := []) (r := (some (.int (fX11_at 57 (0 : Int32) b8)))) (h1 := b8) (okX11_at 57 rfl (0 : Int32) b8) (fun _ => rfl) mlX0_56 mtX11_at rfl (Nat.le_of_ble_eq_true rfl) rfl (Nat.le_of_ble_eq_true rfl) dX0_answer_117 ?_
        refine sim_if_le (tgt := 132) dX0_answer_120 (by decide) (fun c12 => ?_) (fun c12 => ?_)
        · refine sim_iinc (v := x5 + 1) (L' := [(5, .int (x5 + 1)), (0, .ref 53), (1, .ref 3), (2, .int x2), (3, .int x3), (4, .int x4)]) 5 rfl rfl rfl (by decide) dX0_answer_132 ?_
          refine sim_goto (tgt := 38) dX0_answer_135 (by decide) ?_
          refine sim_sub [1, 2, 3, 4, 5, 0] rfl ?_
          exact hR (x5 + 1) b8
        · refine sim_sub [0, 2] rfl ?_
          exact hK123 b8
    · refine sim_aload_n 0 rfl dX0_answer_89 ?_
      refine sim_aload_n 1 rfl dX0_answer_90 ?_
      refine sim_iload 4 rfl dX0_answer_91 ?_
      refine sim_iload 5 rfl dX0_answer_93 ?_
      refine sim_iload_n 2 rfl dX0_answer_95 ?_
      refine sim_letJ (fun J14 => ∀ (w13 : Int32), Sim RX0 cX0_answer 6 (some .int) 6 (Option.map oI) (J14 w13) 105 [(0, .ref 53), (1, .ref 3), (2, .int x2), (3, .int x3), (4, .int x4), (5, .int x5)] [.int w13, .int x5, .int x4, .ref 3, .ref 53] b8) (fun w13 => ?_) (fun J14 hJ14 => ?_)
      · refine sim_bind (fun b15 e16 => ?_)
        refine sim_cV (As := [.ref 3, .int x4, .int x5, .int w13]) (st := []) (r := none) (h1 := b15) (okX0_trySeconds x4 x5 w13 b8 b15 e16) (fun _ => rfl) mlX0_63 mtX0_trySeconds rfl rfl rfl rfl (Nat.le_of_ble_eq_true rfl) rfl (Nat.le_of_ble_eq_true rfl) dX0_answer_105 ?_
        refine sim_iload_n 2 rfl dX0_answer_108 ?_
        refine sim_if_le (tgt := 132) dX0_answer_109 (by decide) (fun c17 => ?_) (fun c17 => ?_)
        · refine sim_iinc (v := x5 + 1) (L' := [(5, .int (x5 + 1)), (0, .ref 53), (1, .ref 3), (2, .int x2), (3, .int x3), (4, .int x4)]) 5 rfl rfl rfl (by decide) dX0_answer_132 ?_
          refine sim_goto (tgt := 38) dX0_answer_135 (by decide) ?_
          refine sim_sub [1, 2, 3, 4, 5, 0] rfl ?_
          exact hR (x5 + 1) b15
        · refine sim_aload_n 0 rfl dX0_answer_112 ?_
          refine sim_getR flX0_21 rfl rfl dX0_answer_113 ?_
          refine sim_iconst (v := 0) (by decide) dX0_answer_116 ?_
          refine sim_cS (As := [.ref 57, .int (0 : Int32)]) (st := []) (r := (some (.int (fX11_at 57 (0 : Int32) b15)))) (h1 := b15) (okX11_at 57 rfl (0 : Int32) b15) (fun _ => rfl) mlX0_56 mtX11_at rfl (Nat.le_of_ble_eq_true rfl) rfl (Nat.le_of_ble_eq_true rfl) dX0_answer_117 ?_
          refine sim_if_le (tgt := 132) dX0_answer_120 (by decide) (fun c18 => ?_) (fun c18 => ?_)
          · refine sim_iinc (v := x5 + 1) (L' := [(5, .int (x5 + 1)), (0, .ref 53), (1, .ref 3), (2, .int x2), (3, .int x3), (4, .int x4)]) 5 rfl rfl rfl (by decide) dX0_answer_132 ?_
            refine sim_goto (tgt := 38) dX0_answer_135 (by decide) ?_
            refine sim_sub [1, 2, 3, 4, 5, 0] rfl ?_
            exact hR (x5 + 1) b15
          · refine sim_sub [0, 2] rfl ?_
            exact hK123 b15
      refine sim_if_ne (tgt := 104) dX0_answer_96 (by decide) (fun c19 => ?_) (fun c19 => ?_)
      · refine sim_iconst (v := 1) (by decide) dX0_answer_104 ?_
        exact hJ14 (1 : Int32)
      · refine sim_ldc kcX0_62 dX0_answer_99 ?_
        refine sim_goto (tgt := 105) dX0_answer_101 (by decide) ?_
        exact hJ14 (2147483647 : Int32)
theorem sX0_answer_l38 {K123 : AH → Option (Int32 × AH)} {K138 : AH → Option (Int32 × AH)} {x2 : Int32} {x3 : Int32} {x4 : Int32} (hK123 : ∀ (g : AH), Sim RX0 cX0_answer 6 (some .int) 6 (Option.map oI) (K123 g) 123 [(0, .ref 53), (2, .int x2)] [] g) (hK138 : ∀ (g : AH), Sim RX0 cX0_answer 6 (some .int) 6 (Option.map oI) (K138 g) 138 [(0, .ref 53), (1, .ref 3), (2, .int x2), (3, .int x3), (4, .int x4)] [] g) : ∀ (n : Nat) (x5 : Int32) (h : AH), Sim RX0 cX0_answer 6 (some .int) 6 (Option.map oI) (fX0_answer_l38 K123 K138 x2 x3 x4 n x5 h) 38 [(0, .ref 53), (1, .ref 3), (2, .int x2), (3, .int x3), (4, .int x4), (5, .int x5)] [] h := by
  intro n
  induction n with
  | zero => intro x5 h; exact sim_none
  | succ n ih => intro x5 h; exact sX0_answer_l38b ih hK123 hK138 x5 h
def fX0_answer_l29b (rec : Int32 → AH → Option (Int32 × AH)) (K123 : AH → Option (Int32 × AH)) (K144 : AH → Option (Int32 × AH)) (x2 : Int32) (x3 : Int32) (x4 : Int32) (h : AH) : Option (Int32 × AH) :=
  if x4 < x3 then
    fX0_answer_l38 (fun (g20 : AH) =>
      K123 g20) (fun (g21 : AH) =>
      rec (x4 + 1) g21) x2 x3 x4 fuel0 (0 : Int32) h
  else
    K144 h
def fX0_answer_l29 (K123 : AH → Option (Int32 × AH)) (K144 : AH → Option (Int32 × AH)) (x2 : Int32) (x3 : Int32) : Nat → Int32 → AH → Option (Int32 × AH)
  | 0, _, _ => none
  | n + 1, x4, h => fX0_answer_l29b (fX0_answer_l29 K123 K144 x2 x3 n) K123 K144 x2 x3 x4 h
theorem sX0_answer_l29b {rec : Int32 → AH → Option (Int32 × AH)} {K123 : AH → Option (Int32 × AH)} {K144 : AH → Option (Int32 × AH)} {x2 : Int32} {x3 : Int32} (hR : ∀ (x4 : Int32) (h : AH), Sim RX0 cX0_answer 6 (some .int) 6 (Option.map oI) (rec x4 h) 29 [(0, .ref 53), (1, .ref 3), (2, .int x2), (3, .int x3), (4, .int x4)] [] h) (hK123 : ∀ (g : AH), Sim RX0 cX0_answer 6 (some .int) 6 (Option.map oI) (K123 g) 123 [(0, .ref 53), (2, .int x2)] [] g) (hK144 : ∀ (g : AH), Sim RX0 cX0_answer 6 (some .int) 6 (Option.map oI) (K144 g) 144 [(0, .ref 53), (2, .int x2)] [] g) : ∀ (x4 : Int32) (h : AH), Sim RX0 cX0_answer 6 (some .int) 6 (Option.map oI) (fX0_answer_l29b rec K123 K144 x2 x3 x4 h) 29 [(0, .ref 53), (1, .ref 3), (2, .int x2), (3, .int x3), (4, .int x4)] [] h := by
  intro x4 h
  unfold fX0_answer_l29b
  refine sim_iload 4 rfl dX0_answer_29 ?_
  refine sim_iload_n 3 rfl dX0_answer_31 ?_
  refine sim_icmp_ge (tgt := 144) dX0_answer_32 (by decide) (fun c4 => ?_) (fun c4 => ?_)
  · refine sim_sub [0, 2] rfl ?_
    exact hK144 h
  · refine sim_iconst (v := 0) (by decide) dX0_answer_35 ?_
    refine sim_istore (L' := [(5, .int (0 : Int32)), (0, .ref 53), (1, .ref 3), (2, .int x2), (3, .int x3), (4, .int x4)]) rfl (by decide) dX0_answer_36 ?_
    refine sim_sub [1, 2, 3, 4, 5, 0] rfl ?_
    refine sX0_answer_l38 (fun g20 => ?_) (fun g21 => ?_) _ (0 : Int32) h
    · exact hK123 g20
    · refine sim_iinc (v := x4 + 1) (L' := [(4, .int (x4 + 1)), (0, .ref 53), (1, .ref 3), (2, .int x2), (3, .int x3)]) 4 rfl rfl rfl (by decide) dX0_answer_138 ?_
      refine sim_goto (tgt := 29) dX0_answer_141 (by decide) ?_
      refine sim_sub [1, 2, 3, 4, 0] rfl ?_
      exact hR (x4 + 1) g21
theorem sX0_answer_l29 {K123 : AH → Option (Int32 × AH)} {K144 : AH → Option (Int32 × AH)} {x2 : Int32} {x3 : Int32} (hK123 : ∀ (g : AH), Sim RX0 cX0_answer 6 (some .int) 6 (Option.map oI) (K123 g) 123 [(0, .ref 53), (2, .int x2)] [] g) (hK144 : ∀ (g : AH), Sim RX0 cX0_answer 6 (some .int) 6 (Option.map oI) (K144 g) 144 [(0, .ref 53), (2, .int x2)] [] g) : ∀ (n : Nat) (x4 : Int32) (h : AH), Sim RX0 cX0_answer 6 (some .int) 6 (Option.map oI) (fX0_answer_l29 K123 K144 x2 x3 n x4 h) 29 [(0, .ref 53), (1, .ref 3), (2, .int x2), (3, .int x3), (4, .int x4)] [] h := by
  intro n
  induction n with
  | zero => intro x4 h; exact sim_none
  | succ n ih => intro x4 h; exact sX0_answer_l29b ih hK123 hK144 x4 h
def fX0_answer (p2 : Int32) (h : AH) : Option (Int32 × AH) :=
  letT (fX11_put 57 (0 : Int32) (0 : Int32) h) (fun g1 =>
  (fX9_workOn (0 : Int32) 54 g1).bind (fun b2 =>
  fX0_answer_l29 (fun (g22 : AH) =>
    some (fX11_at 57 p2 g22, g22)) (fun (g23 : AH) =>
    if p2 = 0 then
      some (fX11_at 57 (0 : Int32) g23, g23)
    else
      some ((-2 : Int32), g23)) p2 (fX6_last b2) fuel0 (0 : Int32) b2))
theorem sX0_answer (p2 : Int32) (h : AH) : Sim RX0 cX0_answer 6 (some .int) 6 (Option.map oI) (fX0_answer p2 h) 0 [(0, .ref 53), (1, .ref 3), (2, .int p2)] [] h := by
  unfold fX0_answer
  refine sim_aload_n 0 rfl dX0_answer_0 ?_
  refine sim_getR flX0_21 rfl rfl dX0_answer_1 ?_
  refine sim_iconst (v := 0) (by decide) dX0_answer_4 ?_
  refine sim_iconst (v := 0) (by decide) dX0_answer_5 ?_
  refine sim_cS (As := [.ref 57, .int (0 : Int32), .int (0 : Int32)]) (st := []) (r := none) (h1 := (fX11_put 57 (0 : Int32) (0 : Int32) h)) (okX11_put 57 rfl (0 : Int32) (0 : Int32) h) (fun _ => rfl) mlX0_24 mtX11_put rfl (Nat.le_of_ble_eq_true rfl) rfl (Nat.le_of_ble_eq_true rfl) dX0_answer_6 ?_
  refine sim_nmH (fun g1 => ?_)
  refine sim_aload_n 1 rfl dX0_answer_9 ?_
  refine sim_iconst (v := 0) (by decide) dX0_answer_10 ?_
  refine sim_aload_n 0 rfl dX0_answer_11 ?_
  refine sim_getR flX0_9 rfl rfl dX0_answer_12 ?_
  refine sim_bind (fun b2 e3 => ?_)
  refine sim_cV (As := [.int (0 : Int32), .ref 54]) (st := []) (r := none) (h1 := b2) (okX9_workOn (0 : Int32) 54 rfl g1 b2 e3) (fun _ => rfl) mlX0_28 mtX9_workOn rfl rfl rfl rfl (Nat.le_of_ble_eq_true rfl) rfl (Nat.le_of_ble_eq_true rfl) dX0_answer_15 ?_
  refine sim_aload_n 1 rfl dX0_answer_18 ?_
  refine sim_getR flX0_34 rfl rfl dX0_answer_19 ?_
  refine sim_cV (As := []) (st := []) (r := (some (.int (fX6_last b2)))) (h1 := b2) (okX6_last b2) (fun _ => rfl) mlX0_38 mtX6_last rfl rfl rfl rfl (Nat.le_of_ble_eq_true rfl) rfl (Nat.le_of_ble_eq_true rfl) dX0_answer_22 ?_
  refine sim_istore_n (L' := [(3, .int (fX6_last b2)), (0, .ref 53), (1, .ref 3), (2, .int p2)]) rfl (by decide) dX0_answer_25 ?_
  refine sim_iconst (v := 0) (by decide) dX0_answer_26 ?_
  refine sim_istore (L' := [(4, .int (0 : Int32)), (3, .int (fX6_last b2)), (0, .ref 53), (1, .ref 3), (2, .int p2)]) rfl (by decide) dX0_answer_27 ?_
  refine sim_sub [2, 3, 4, 1, 0] rfl ?_
  refine sX0_answer_l29 (fun g22 => ?_) (fun g23 => ?_) _ (0 : Int32) b2
  · refine sim_aload_n 0 rfl dX0_answer_123 ?_
    refine sim_getR flX0_21 rfl rfl dX0_answer_124 ?_
    refine sim_iload_n 1 rfl dX0_answer_127 ?_
    refine sim_cS (As := [.ref 57, .int p2]) (st := []) (r := (some (.int (fX11_at 57 p2 g22)))) (h1 := g22) (okX11_at 57 rfl p2 g22) (fun _ => rfl) mlX0_56 mtX11_at rfl (Nat.le_of_ble_eq_true rfl) rfl (Nat.le_of_ble_eq_true rfl) dX0_answer_128 ?_
    exact sim_iret rfl rfl dX0_answer_131
  · refine sim_iload_n 1 rfl dX0_answer_144 ?_
    refine sim_if_ne (tgt := 159) dX0_answer_145 (by decide) (fun c24 => ?_) (fun c24 => ?_)
    · refine sim_bipush (v := -2) (by decide) dX0_answer_159 ?_
      exact sim_iret rfl rfl dX0_answer_161
    · refine sim_aload_n 0 rfl dX0_answer_148 ?_
      refine sim_getR flX0_21 rfl rfl dX0_answer_149 ?_
      refine sim_iconst (v := 0) (by decide) dX0_answer_152 ?_
      refine sim_cS (As := [.ref 57, .int (0 : Int32)]) (st := []) (r := (some (.int (fX11_at 57 (0 : Int32) g23)))) (h1 := g23) (okX11_at 57 rfl (0 : Int32) g23) (fun _ => rfl) mlX0_56 mtX11_at rfl (Nat.le_of_ble_eq_true rfl) rfl (Nat.le_of_ble_eq_true rfl) dX0_answer_153 ?_
      refine sim_goto (tgt := 161) dX0_answer_156 (by decide) ?_
      exact sim_iret rfl rfl dX0_answer_161
theorem okX0_answer (p2 : Int32) (h : AH) (b : Int32 × AH) (e : fX0_answer p2 h = some b) : Ok yX0_answer cX0_answer 6 (some .int) 6 [.ref 53, .ref 3, .int p2] h (some (.int b.1), b.2) := ok_of (sX0_answer p2 h) (by rw [e]; rfl) (by decide +kernel) (Nat.le_of_ble_eq_true rfl)
def fX11_cancel (p1 : Int32) (h : AH) : Option (Int32 × AH) :=
  if p1 < 0 then
    some ((-1 : Int32), h)
  else
    if (4 : Int32) < p1 then
      some ((-1 : Int32), h)
    else
      if (h.1 6 0) = 0 then
        some ((-1 : Int32), h)
      else
        if (8 : Int32) < (h.1 6 0) then
          some ((-1 : Int32), h)
        else
          (fX0_answer p1 h).bind (fun b5 =>
          some (b5.1, b5.2))
theorem sX11_cancel (p1 : Int32) (h : AH) : Sim RX11 cX11_cancel 3 (some .int) 7 (Option.map oI) (fX11_cancel p1 h) 0 [(0, .ref 0), (1, .int p1)] [] h := by
  unfold fX11_cancel
  refine sim_aload_n 0 rfl dX11_cancel_0 ?_
  refine sim_getR flX11_19 rfl rfl dX11_cancel_1 ?_
  refine sim_getR flX11_133 rfl rfl dX11_cancel_4 ?_
  refine sim_getI flX11_198 rfl rfl dX11_cancel_7 ?_
  refine sim_istore_n (L' := [(2, .int (h.1 6 0)), (0, .ref 0), (1, .int p1)]) rfl (by decide) dX11_cancel_10 ?_
  refine sim_iload_n 2 rfl dX11_cancel_11 ?_
  refine sim_if_lt (tgt := 30) dX11_cancel_12 (by decide) (fun c1 => ?_) (fun c1 => ?_)
  · refine sim_iconst (v := -1) (by decide) dX11_cancel_30 ?_
    exact sim_iret rfl rfl dX11_cancel_31
  · refine sim_iload_n 2 rfl dX11_cancel_15 ?_
    refine sim_iconst (v := 4) (by decide) dX11_cancel_16 ?_
    refine sim_icmp_gt (tgt := 30) dX11_cancel_17 (by decide) (fun c2 => ?_) (fun c2 => ?_)
    · refine sim_iconst (v := -1) (by decide) dX11_cancel_30 ?_
      exact sim_iret rfl rfl dX11_cancel_31
    · refine sim_iload_n 0 rfl dX11_cancel_20 ?_
      refine sim_if_eq (tgt := 30) dX11_cancel_21 (by decide) (fun c3 => ?_) (fun c3 => ?_)
      · refine sim_iconst (v := -1) (by decide) dX11_cancel_30 ?_
        exact sim_iret rfl rfl dX11_cancel_31
      · refine sim_iload_n 0 rfl dX11_cancel_24 ?_
        refine sim_bipush (v := 8) (by decide) dX11_cancel_25 ?_
        refine sim_icmp_le (tgt := 32) dX11_cancel_27 (by decide) (fun c4 => ?_) (fun c4 => ?_)
        · refine sim_aload_n 1 rfl dX11_cancel_32 ?_
          refine sim_getR flX11_69 rfl rfl dX11_cancel_33 ?_
          refine sim_aload_n 1 rfl dX11_cancel_36 ?_
          refine sim_getR flX11_19 rfl rfl dX11_cancel_37 ?_
          refine sim_iload_n 2 rfl dX11_cancel_40 ?_
          refine sim_bind (fun b5 e6 => ?_)
          refine sim_cV (As := [.ref 3, .int p1]) (st := []) (r := (some (.int b5.1))) (h1 := b5.2) (okX0_answer p1 h b5 e6) (fun _ => rfl) mlX11_259 mtX0_answer rfl rfl rfl rfl (Nat.le_of_ble_eq_true rfl) rfl (Nat.le_of_ble_eq_true rfl) dX11_cancel_41 ?_
          exact sim_iret rfl rfl dX11_cancel_44
        · refine sim_iconst (v := -1) (by decide) dX11_cancel_30 ?_
          exact sim_iret rfl rfl dX11_cancel_31
theorem okX11_cancel (p1 : Int32) (h : AH) (b : Int32 × AH) (e : fX11_cancel p1 h = some b) : Ok yX11_cancel cX11_cancel 3 (some .int) 7 [.ref 0, .int p1] h (some (.int b.1), b.2) := ok_of (sX11_cancel p1 h) (by rw [e]; rfl) (by decide +kernel) (Nat.le_of_ble_eq_true rfl)
def fX11_stands (p1 : Int32) (p2 : Int32) (h : AH) : Option Int32 :=
  if (fX6_holds p1 h) = 0 then
    some (-1 : Int32)
  else
    if p2 < 0 then
      some (-1 : Int32)
    else
      if (1 : Int32) < p2 then
        some (-1 : Int32)
      else
        if p2 = 0 then
          (fX6_standingOn p1 h).bind (fun b5 =>
          some b5)
        else
          some (fX11_at 13 p1 h)
theorem sX11_stands (p1 : Int32) (p2 : Int32) (h : AH) : Sim RX11 cX11_stands 3 (some .int) 3 (Option.map (pI h)) (fX11_stands p1 p2 h) 0 [(0, .ref 0), (1, .int p1), (2, .int p2)] [] h := by
  unfold fX11_stands
  refine sim_aload_n 0 rfl dX11_stands_0 ?_
  refine sim_getR flX11_19 rfl rfl dX11_stands_1 ?_
  refine sim_getR flX11_133 rfl rfl dX11_stands_4 ?_
  refine sim_iload_n 1 rfl dX11_stands_7 ?_
  refine sim_cV (As := [.int p1]) (st := []) (r := (some (.int (fX6_holds p1 h)))) (h1 := h) (okX6_holds p1 h) (fun _ => rfl) mlX11_155 mtX6_holds rfl rfl rfl rfl (Nat.le_of_ble_eq_true rfl) rfl (Nat.le_of_ble_eq_true rfl) dX11_stands_8 ?_
  refine sim_if_eq (tgt := 23) dX11_stands_11 (by decide) (fun c1 => ?_) (fun c1 => ?_)
  · refine sim_iconst (v := -1) (by decide) dX11_stands_23 ?_
    exact sim_iret rfl rfl dX11_stands_24
  · refine sim_iload_n 2 rfl dX11_stands_14 ?_
    refine sim_if_lt (tgt := 23) dX11_stands_15 (by decide) (fun c2 => ?_) (fun c2 => ?_)
    · refine sim_iconst (v := -1) (by decide) dX11_stands_23 ?_
      exact sim_iret rfl rfl dX11_stands_24
    · refine sim_iload_n 2 rfl dX11_stands_18 ?_
      refine sim_iconst (v := 1) (by decide) dX11_stands_19 ?_
      refine sim_icmp_le (tgt := 25) dX11_stands_20 (by decide) (fun c3 => ?_) (fun c3 => ?_)
      · refine sim_iload_n 2 rfl dX11_stands_25 ?_
        refine sim_if_ne (tgt := 43) dX11_stands_26 (by decide) (fun c4 => ?_) (fun c4 => ?_)
        · refine sim_aload_n 0 rfl dX11_stands_43 ?_
          refine sim_getR flX11_19 rfl rfl dX11_stands_44 ?_
          refine sim_getR flX11_133 rfl rfl dX11_stands_47 ?_
          refine sim_getR flX11_266 rfl rfl dX11_stands_50 ?_
          refine sim_iload_n 1 rfl dX11_stands_53 ?_
          refine sim_cS (As := [.ref 13, .int p1]) (st := []) (r := (some (.int (fX11_at 13 p1 h)))) (h1 := h) (okX11_at 13 rfl p1 h) (fun _ => rfl) mlX11_164 mtX11_at rfl (Nat.le_of_ble_eq_true rfl) rfl (Nat.le_of_ble_eq_true rfl) dX11_stands_54 ?_
          exact sim_iret rfl rfl dX11_stands_57
        · refine sim_aload_n 0 rfl dX11_stands_29 ?_
          refine sim_getR flX11_19 rfl rfl dX11_stands_30 ?_
          refine sim_getR flX11_133 rfl rfl dX11_stands_33 ?_
          refine sim_iload_n 1 rfl dX11_stands_36 ?_
          refine sim_bind (fun b5 e6 => ?_)
          refine sim_cV (As := [.int p1]) (st := []) (r := (some (.int b5))) (h1 := h) (okX6_standingOn p1 h b5 e6) (fun _ => rfl) mlX11_263 mtX6_standingOn rfl rfl rfl rfl (Nat.le_of_ble_eq_true rfl) rfl (Nat.le_of_ble_eq_true rfl) dX11_stands_37 ?_
          refine sim_goto (tgt := 57) dX11_stands_40 (by decide) ?_
          exact sim_iret rfl rfl dX11_stands_57
      · refine sim_iconst (v := -1) (by decide) dX11_stands_23 ?_
        exact sim_iret rfl rfl dX11_stands_24
theorem okX11_stands (p1 : Int32) (p2 : Int32) (h : AH) (b : Int32) (e : fX11_stands p1 p2 h = some b) : Ok yX11_stands cX11_stands 3 (some .int) 3 [.ref 0, .int p1, .int p2] h (some (.int b), h) := ok_of (sX11_stands p1 p2 h) (by rw [e]; rfl) (by decide +kernel) (Nat.le_of_ble_eq_true rfl)
def fX6_has (p1 : Int32) (p2 : Int32) (h : AH) : Int32 :=
  letT (if (fX11_at 8 p1 h) < (3 : Int32) then
      (0 : Int32)
    else
      if (fX11_at 10 p1 h) = p2 then
        (1 : Int32)
      else
        (0 : Int32)) (fun J1 =>
  if (fX11_at 8 p1 h) = 0 then
    J1
  else
    if (fX11_at 9 p1 h) = p2 then
      (1 : Int32)
    else
      J1)
theorem sX6_has (p1 : Int32) (p2 : Int32) (h : AH) : Sim RX6 cX6_has 4 (some .boolean) 2 (tI h) (fX6_has p1 p2 h) 0 [(0, .ref 6), (1, .int p1), (2, .int p2)] [] h := by
  unfold fX6_has
  refine sim_aload_n 0 rfl dX6_has_0 ?_
  refine sim_getR flX6_19 rfl rfl dX6_has_1 ?_
  refine sim_iload_n 1 rfl dX6_has_4 ?_
  refine sim_cS (As := [.ref 8, .int p1]) (st := []) (r := (some (.int (fX11_at 8 p1 h)))) (h1 := h) (okX11_at 8 rfl p1 h) (fun _ => rfl) mlX6_49 mtX11_at rfl (Nat.le_of_ble_eq_true rfl) rfl (Nat.le_of_ble_eq_true rfl) dX6_has_5 ?_
  refine sim_istore_n (L' := [(3, .int (fX11_at 8 p1 h)), (0, .ref 6), (1, .int p1), (2, .int p2)]) rfl (by decide) dX6_has_8 ?_
  refine sim_iload_n 0 rfl dX6_has_9 ?_
  refine sim_letJ (fun J1 => Sim RX6 cX6_has 4 (some .boolean) 2 (tI h) (J1) 25 [(0, .ref 6), (1, .int p1), (2, .int p2), (3, .int (fX11_at 8 p1 h))] [] h) (?_) (fun J1 hJ1 => ?_)
  · refine sim_iload_n 3 rfl dX6_has_25 ?_
    refine sim_iconst (v := 3) (by decide) dX6_has_26 ?_
    refine sim_icmp_lt (tgt := 46) dX6_has_27 (by decide) (fun c2 => ?_) (fun c2 => ?_)
    · refine sim_iconst (v := 0) (by decide) dX6_has_46 ?_
      exact sim_zret rfl rfl rfl dX6_has_47
    · refine sim_aload_n 0 rfl dX6_has_30 ?_
      refine sim_getR flX6_25 rfl rfl dX6_has_31 ?_
      refine sim_iload_n 1 rfl dX6_has_34 ?_
      refine sim_cS (As := [.ref 10, .int p1]) (st := []) (r := (some (.int (fX11_at 10 p1 h)))) (h1 := h) (okX11_at 10 rfl p1 h) (fun _ => rfl) mlX6_49 mtX11_at rfl (Nat.le_of_ble_eq_true rfl) rfl (Nat.le_of_ble_eq_true rfl) dX6_has_35 ?_
      refine sim_iload_n 2 rfl dX6_has_38 ?_
      refine sim_icmp_ne (tgt := 46) dX6_has_39 (by decide) (fun c3 => ?_) (fun c3 => ?_)
      · refine sim_iconst (v := 0) (by decide) dX6_has_46 ?_
        exact sim_zret rfl rfl rfl dX6_has_47
      · refine sim_iconst (v := 1) (by decide) dX6_has_42 ?_
        refine sim_goto (tgt := 47) dX6_has_43 (by decide) ?_
        exact sim_zret rfl rfl rfl dX6_has_47
  refine sim_if_eq (tgt := 25) dX6_has_10 (by decide) (fun c4 => ?_) (fun c4 => ?_)
  · refine sim_sub [1, 2, 3, 0] rfl ?_
    exact hJ1
  · refine sim_aload_n 1 rfl dX6_has_13 ?_
    refine sim_getR flX6_22 rfl rfl dX6_has_14 ?_
    refine sim_iload_n 2 rfl dX6_has_17 ?_
    refine sim_cS (As := [.ref 9, .int p1]) (st := []) (r := (some (.int (fX11_at 9 p1 h)))) (h1 := h) (okX11_at 9 rfl p1 h) (fun _ => rfl) mlX6_49 mtX11_at rfl (Nat.le_of_ble_eq_true rfl) rfl (Nat.le_of_ble_eq_true rfl) dX6_has_18 ?_
    refine sim_iload_n 3 rfl dX6_has_21 ?_
    refine sim_icmp_eq (tgt := 42) dX6_has_22 (by decide) (fun c5 => ?_) (fun c5 => ?_)
    · refine sim_iconst (v := 1) (by decide) dX6_has_42 ?_
      refine sim_goto (tgt := 47) dX6_has_43 (by decide) ?_
      exact sim_zret rfl rfl rfl dX6_has_47
    · refine sim_sub [1, 2, 3, 0] rfl ?_
      exact hJ1
theorem okX6_has (p1 : Int32) (p2 : Int32) (h : AH) : Ok yX6_has cX6_has 4 (some .boolean) 2 [.ref 6, .int p1, .int p2] h (some (.int (fX6_has p1 p2 h)), h) := ok_of (sX6_has p1 p2 h) rfl (by decide +kernel) (Nat.le_of_ble_eq_true rfl)
def fX3_waysOut_l8b (rec : Int64 → Int32 → Option Int64) (x1 : Int32) (x2 : Int32) (x3 : Int32) (h : AH) (x4 : Int64) (x6 : Int32) : Option Int64 :=
  if x6 < (h.1 6 0) then
    if (fX6_has x6 x1 h) = 0 then
      rec x4 (x6 + 1)
    else
      if (fX11_isIn x3 x6 h) = 0 then
        if (fX11_isIn x2 x6 h) = 0 then
          letT (x4 ||| (0 : Int64)) (fun v6 =>
          rec v6 (x6 + 1))
        else
          letT (x4 ||| (jshlL (1 : Int64) x6)) (fun v7 =>
          rec v7 (x6 + 1))
      else
        letT (x4 ||| (1099511627776 : Int64)) (fun v8 =>
        rec v8 (x6 + 1))
  else
    some x4
def fX3_waysOut_l8 (x1 : Int32) (x2 : Int32) (x3 : Int32) (h : AH) : Nat → Int64 → Int32 → Option Int64
  | 0, _, _ => none
  | n + 1, x4, x6 => fX3_waysOut_l8b (fX3_waysOut_l8 x1 x2 x3 h n) x1 x2 x3 h x4 x6
theorem sX3_waysOut_l8b {rec : Int64 → Int32 → Option Int64} {x1 : Int32} {x2 : Int32} {x3 : Int32} {h : AH} (hR : ∀ (x4 : Int64) (x6 : Int32), Sim RX3 cX3_waysOut 7 (some .long) 3 (Option.map (pJ h)) (rec x4 x6) 8 [(0, .ref 6), (1, .int x1), (2, .int x2), (3, .int x3), (4, .long x4), (6, .int x6)] [] h) : ∀ (x4 : Int64) (x6 : Int32), Sim RX3 cX3_waysOut 7 (some .long) 3 (Option.map (pJ h)) (fX3_waysOut_l8b rec x1 x2 x3 h x4 x6) 8 [(0, .ref 6), (1, .int x1), (2, .int x2), (3, .int x3), (4, .long x4), (6, .int x6)] [] h := by
  intro x4 x6
  unfold fX3_waysOut_l8b
  refine sim_iload 5 rfl dX3_waysOut_8 ?_
  refine sim_aload_n 0 rfl dX3_waysOut_10 ?_
  refine sim_getI flX3_34 rfl rfl dX3_waysOut_11 ?_
  refine sim_icmp_ge (tgt := 70) dX3_waysOut_14 (by decide) (fun c2 => ?_) (fun c2 => ?_)
  · refine sim_lload 4 rfl dX3_waysOut_70 ?_
    exact sim_lret rfl rfl dX3_waysOut_72
  · refine sim_aload_n 0 rfl dX3_waysOut_17 ?_
    refine sim_iload 5 rfl dX3_waysOut_18 ?_
    refine sim_iload_n 1 rfl dX3_waysOut_20 ?_
    refine sim_cV (As := [.int x6, .int x1]) (st := []) (r := (some (.int (fX6_has x6 x1 h)))) (h1 := h) (okX6_has x6 x1 h) (fun _ => rfl) mlX3_59 mtX6_has rfl rfl rfl rfl (Nat.le_of_ble_eq_true rfl) rfl (Nat.le_of_ble_eq_true rfl) dX3_waysOut_21 ?_
    refine sim_if_eq (tgt := 64) dX3_waysOut_24 (by decide) (fun c3 => ?_) (fun c3 => ?_)
    · refine sim_iinc (v := x6 + 1) (L' := [(6, .int (x6 + 1)), (0, .ref 6), (1, .int x1), (2, .int x2), (3, .int x3), (4, .long x4)]) 5 rfl rfl rfl (by decide) dX3_waysOut_64 ?_
      refine sim_goto (tgt := 8) dX3_waysOut_67 (by decide) ?_
      refine sim_sub [1, 2, 3, 4, 5, 0] rfl ?_
      exact hR x4 (x6 + 1)
    · refine sim_lload 4 rfl dX3_waysOut_27 ?_
      refine sim_iload_n 3 rfl dX3_waysOut_29 ?_
      refine sim_iload 5 rfl dX3_waysOut_30 ?_
      refine sim_cS (As := [.int x3, .int x6]) (st := [.long x4]) (r := (some (.int (fX11_isIn x3 x6 h)))) (h1 := h) (okX11_isIn x3 x6 h) (fun _ => rfl) mlX3_47 mtX11_isIn rfl (Nat.le_of_ble_eq_true rfl) rfl (Nat.le_of_ble_eq_true rfl) dX3_waysOut_32 ?_
      refine sim_if_eq (tgt := 44) dX3_waysOut_35 (by decide) (fun c4 => ?_) (fun c4 => ?_)
      · refine sim_iload_n 2 rfl dX3_waysOut_44 ?_
        refine sim_iload 5 rfl dX3_waysOut_45 ?_
        refine sim_cS (As := [.int x2, .int x6]) (st := [.long x4]) (r := (some (.int (fX11_isIn x2 x6 h)))) (h1 := h) (okX11_isIn x2 x6 h) (fun _ => rfl) mlX3_47 mtX11_isIn rfl (Nat.le_of_ble_eq_true rfl) rfl (Nat.le_of_ble_eq_true rfl) dX3_waysOut_47 ?_
        refine sim_if_eq (tgt := 60) dX3_waysOut_50 (by decide) (fun c5 => ?_) (fun c5 => ?_)
        · refine sim_lconst (v := 0) (by decide) dX3_waysOut_60 ?_
          refine sim_lor dX3_waysOut_61 ?_
          refine sim_nmJ (fun v6 => ?_)
          refine sim_lstore (L' := [(4, .long v6), (0, .ref 6), (1, .int x1), (2, .int x2), (3, .int x3), (6, .int x6)]) rfl (by decide) dX3_waysOut_62 ?_
          refine sim_iinc (v := x6 + 1) (L' := [(6, .int (x6 + 1)), (4, .long v6), (0, .ref 6), (1, .int x1), (2, .int x2), (3, .int x3)]) 5 rfl rfl rfl (by decide) dX3_waysOut_64 ?_
          refine sim_goto (tgt := 8) dX3_waysOut_67 (by decide) ?_
          refine sim_sub [2, 3, 4, 5, 1, 0] rfl ?_
          exact hR v6 (x6 + 1)
        · refine sim_lconst (v := 1) (by decide) dX3_waysOut_53 ?_
          refine sim_iload 5 rfl dX3_waysOut_54 ?_
          refine sim_lshl dX3_waysOut_56 ?_
          refine sim_goto (tgt := 61) dX3_waysOut_57 (by decide) ?_
          refine sim_lor dX3_waysOut_61 ?_
          refine sim_nmJ (fun v7 => ?_)
          refine sim_lstore (L' := [(4, .long v7), (0, .ref 6), (1, .int x1), (2, .int x2), (3, .int x3), (6, .int x6)]) rfl (by decide) dX3_waysOut_62 ?_
          refine sim_iinc (v := x6 + 1) (L' := [(6, .int (x6 + 1)), (4, .long v7), (0, .ref 6), (1, .int x1), (2, .int x2), (3, .int x3)]) 5 rfl rfl rfl (by decide) dX3_waysOut_64 ?_
          refine sim_goto (tgt := 8) dX3_waysOut_67 (by decide) ?_
          refine sim_sub [2, 3, 4, 5, 1, 0] rfl ?_
          exact hR v7 (x6 + 1)
      · refine sim_ldc2 kcX3_62 dX3_waysOut_38 ?_
        refine sim_goto (tgt := 61) dX3_waysOut_41 (by decide) ?_
        refine sim_lor dX3_waysOut_61 ?_
        refine sim_nmJ (fun v8 => ?_)
        refine sim_lstore (L' := [(4, .long v8), (0, .ref 6), (1, .int x1), (2, .int x2), (3, .int x3), (6, .int x6)]) rfl (by decide) dX3_waysOut_62 ?_
        refine sim_iinc (v := x6 + 1) (L' := [(6, .int (x6 + 1)), (4, .long v8), (0, .ref 6), (1, .int x1), (2, .int x2), (3, .int x3)]) 5 rfl rfl rfl (by decide) dX3_waysOut_64 ?_
        refine sim_goto (tgt := 8) dX3_waysOut_67 (by decide) ?_
        refine sim_sub [2, 3, 4, 5, 1, 0] rfl ?_
        exact hR v8 (x6 + 1)
theorem sX3_waysOut_l8 {x1 : Int32} {x2 : Int32} {x3 : Int32} {h : AH} : ∀ (n : Nat) (x4 : Int64) (x6 : Int32), Sim RX3 cX3_waysOut 7 (some .long) 3 (Option.map (pJ h)) (fX3_waysOut_l8 x1 x2 x3 h n x4 x6) 8 [(0, .ref 6), (1, .int x1), (2, .int x2), (3, .int x3), (4, .long x4), (6, .int x6)] [] h := by
  intro n
  induction n with
  | zero => intro x4 x6; exact sim_none
  | succ n ih => intro x4 x6; exact sX3_waysOut_l8b ih x4 x6
def fX3_waysOut (p1 : Int32) (p2 : Int32) (p3 : Int32) (h : AH) : Option Int64 :=
  letT (p1 + (1 : Int32)) (fun v1 =>
  fX3_waysOut_l8 p1 p2 p3 h fuel0 (0 : Int64) v1)
theorem sX3_waysOut (p1 : Int32) (p2 : Int32) (p3 : Int32) (h : AH) : Sim RX3 cX3_waysOut 7 (some .long) 3 (Option.map (pJ h)) (fX3_waysOut p1 p2 p3 h) 0 [(0, .ref 6), (1, .int p1), (2, .int p2), (3, .int p3)] [] h := by
  unfold fX3_waysOut
  refine sim_lconst (v := 0) (by decide) dX3_waysOut_0 ?_
  refine sim_lstore (L' := [(4, .long (0 : Int64)), (0, .ref 6), (1, .int p1), (2, .int p2), (3, .int p3)]) rfl (by decide) dX3_waysOut_1 ?_
  refine sim_iload_n 2 rfl dX3_waysOut_3 ?_
  refine sim_iconst (v := 1) (by decide) dX3_waysOut_4 ?_
  refine sim_iadd dX3_waysOut_5 ?_
  refine sim_nmI (fun v1 => ?_)
  refine sim_istore (L' := [(6, .int v1), (4, .long (0 : Int64)), (0, .ref 6), (1, .int p1), (2, .int p2), (3, .int p3)]) rfl (by decide) dX3_waysOut_6 ?_
  refine sim_sub [2, 3, 4, 5, 1, 0] rfl ?_
  refine sX3_waysOut_l8 _ (0 : Int64) v1
theorem okX3_waysOut (p1 : Int32) (p2 : Int32) (p3 : Int32) (h : AH) (b : Int64) (e : fX3_waysOut p1 p2 p3 h = some b) : Ok yX3_waysOut cX3_waysOut 7 (some .long) 3 [.ref 6, .int p1, .int p2, .int p3] h (some (.long b), h) := ok_of (sX3_waysOut p1 p2 p3 h) (by rw [e]; rfl) (by decide +kernel) (Nat.le_of_ble_eq_true rfl)
def fX3_putArcs (p1 : Int32) (p2 : Int64) (h : AH) : AH :=
  if p1 < 0 then
    h
  else
    if p1 < (41 : Int32) then
      letT (sJ h 59 p1.toNatClampNeg p2) (fun g3 =>
      g3)
    else
      h
theorem sX3_putArcs (p1 : Int32) (p2 : Int64) (h : AH) : Sim RX3 cX3_putArcs 4 none 1 (tV) (fX3_putArcs p1 p2 h) 0 [(0, .ref 58), (1, .int p1), (2, .long p2)] [] h := by
  unfold fX3_putArcs
  refine sim_iload_n 1 rfl dX3_putArcs_0 ?_
  refine sim_if_lt (tgt := 20) dX3_putArcs_1 (by decide) (fun c1 => ?_) (fun c1 => ?_)
  · exact sim_vret rfl rfl dX3_putArcs_20
  · refine sim_iload_n 1 rfl dX3_putArcs_4 ?_
    refine sim_aload_n 0 rfl dX3_putArcs_5 ?_
    refine sim_getR flX3_11 rfl rfl dX3_putArcs_6 ?_
    refine sim_alen (v := 41) rfl (by decide) rfl dX3_putArcs_9 ?_
    refine sim_icmp_ge (tgt := 20) dX3_putArcs_10 (by decide) (fun c2 => ?_) (fun c2 => ?_)
    · exact sim_vret rfl rfl dX3_putArcs_20
    · refine sim_aload_n 0 rfl dX3_putArcs_13 ?_
      refine sim_getR flX3_11 rfl rfl dX3_putArcs_14 ?_
      refine sim_iload_n 1 rfl dX3_putArcs_17 ?_
      refine sim_lload_n 2 rfl dX3_putArcs_18 ?_
      refine sim_last rfl (vp_lit (by decide) c1 c2) dX3_putArcs_19 ?_
      refine sim_nmH (fun g3 => ?_)
      exact sim_vret rfl rfl dX3_putArcs_20
theorem okX3_putArcs (p1 : Int32) (p2 : Int64) (h : AH) : Ok yX3_putArcs cX3_putArcs 4 none 1 [.ref 58, .int p1, .long p2] h (none, fX3_putArcs p1 p2 h) := ok_of (sX3_putArcs p1 p2 h) rfl (by decide +kernel) (Nat.le_of_ble_eq_true rfl)
def fX3_drawArcs_l3b (rec : Int32 → AH → Option AH) (K27 : AH → Option AH) (x2 : Int32) (x3 : Int32) (x4 : Int32) (h : AH) : Option AH :=
  if x4 < (41 : Int32) then
    if x4 < 0 ∨ 41 ≤ x4.toNatClampNeg then none else
    letT (sJ h 59 x4.toNatClampNeg (0 : Int64)) (fun g3 =>
    rec (x4 + 1) g3)
  else
    K27 h
def fX3_drawArcs_l3 (K27 : AH → Option AH) (x2 : Int32) (x3 : Int32) : Nat → Int32 → AH → Option AH
  | 0, _, _ => none
  | n + 1, x4, h => fX3_drawArcs_l3b (fX3_drawArcs_l3 K27 x2 x3 n) K27 x2 x3 x4 h
theorem sX3_drawArcs_l3b {rec : Int32 → AH → Option AH} {K27 : AH → Option AH} {x2 : Int32} {x3 : Int32} (hR : ∀ (x4 : Int32) (h : AH), Sim RX3 cX3_drawArcs 6 none 4 (Option.map oV) (rec x4 h) 3 [(0, .ref 58), (1, .ref 6), (2, .int x2), (3, .int x3), (4, .int x4)] [] h) (hK27 : ∀ (g : AH), Sim RX3 cX3_drawArcs 6 none 4 (Option.map oV) (K27 g) 27 [(0, .ref 58), (1, .ref 6), (2, .int x2), (3, .int x3)] [] g) : ∀ (x4 : Int32) (h : AH), Sim RX3 cX3_drawArcs 6 none 4 (Option.map oV) (fX3_drawArcs_l3b rec K27 x2 x3 x4 h) 3 [(0, .ref 58), (1, .ref 6), (2, .int x2), (3, .int x3), (4, .int x4)] [] h := by
  intro x4 h
  unfold fX3_drawArcs_l3b
  refine sim_iload 4 rfl dX3_drawArcs_3 ?_
  refine sim_aload_n 0 rfl dX3_drawArcs_5 ?_
  refine sim_getR flX3_11 rfl rfl dX3_drawArcs_6 ?_
  refine sim_alen (v := 41) rfl (by decide) rfl dX3_drawArcs_9 ?_
  refine sim_icmp_ge (tgt := 27) dX3_drawArcs_10 (by decide) (fun c1 => ?_) (fun c1 => ?_)
  · refine sim_sub [0, 1, 2, 3] rfl ?_
    exact hK27 h
  · refine sim_aload_n 0 rfl dX3_drawArcs_13 ?_
    refine sim_getR flX3_11 rfl rfl dX3_drawArcs_14 ?_
    refine sim_iload 4 rfl dX3_drawArcs_17 ?_
    refine sim_lconst (v := 0) (by decide) dX3_drawArcs_19 ?_
    refine sim_nguard (fun c2 => ?_)
    refine sim_last rfl c2 dX3_drawArcs_20 ?_
    refine sim_nmH (fun g3 => ?_)
    refine sim_iinc (v := x4 + 1) (L' := [(4, .int (x4 + 1)), (0, .ref 58), (1, .ref 6), (2, .int x2), (3, .int x3)]) 4 rfl rfl rfl (by decide) dX3_drawArcs_21 ?_
    refine sim_goto (tgt := 3) dX3_drawArcs_24 (by decide) ?_
    refine sim_sub [1, 2, 3, 4, 0] rfl ?_
    exact hR (x4 + 1) g3
theorem sX3_drawArcs_l3 {K27 : AH → Option AH} {x2 : Int32} {x3 : Int32} (hK27 : ∀ (g : AH), Sim RX3 cX3_drawArcs 6 none 4 (Option.map oV) (K27 g) 27 [(0, .ref 58), (1, .ref 6), (2, .int x2), (3, .int x3)] [] g) : ∀ (n : Nat) (x4 : Int32) (h : AH), Sim RX3 cX3_drawArcs 6 none 4 (Option.map oV) (fX3_drawArcs_l3 K27 x2 x3 n x4 h) 3 [(0, .ref 58), (1, .ref 6), (2, .int x2), (3, .int x3), (4, .int x4)] [] h := by
  intro n
  induction n with
  | zero => intro x4 h; exact sim_none
  | succ n ih => intro x4 h; exact sX3_drawArcs_l3b ih hK27 x4 h
def fX3_drawArcs_l41b (rec : Int32 → AH → Option AH) (x2 : Int32) (x3 : Int32) (x4 : Int32) (x5 : Int32) (h : AH) : Option AH :=
  if x5 < (h.1 6 0) then
    letT (fun (g9 : AH) =>
      letT ((fX3_waysOut x5 x4 x3 g9).bind (fun b12 =>
        letT (fX3_putArcs ((20 : Int32) + x5) b12 g9) (fun g14 =>
        rec (x5 + 1) g14))) (fun J11 =>
      if x5 = x2 then
        J11
      else
        if (fX11_isIn x4 x5 g9) = 0 then
          rec (x5 + 1) g9
        else
          J11)) (fun J10 =>
    if (fX11_isIn x4 x5 h) = 0 then
      J10 h
    else
      letT (fX3_putArcs x5 (jshlL (1 : Int64) ((20 : Int32) + x5)) h) (fun g18 =>
      J10 g18))
  else
    some h
def fX3_drawArcs_l41 (x2 : Int32) (x3 : Int32) (x4 : Int32) : Nat → Int32 → AH → Option AH
  | 0, _, _ => none
  | n + 1, x5, h => fX3_drawArcs_l41b (fX3_drawArcs_l41 x2 x3 x4 n) x2 x3 x4 x5 h
theorem sX3_drawArcs_l41b {rec : Int32 → AH → Option AH} {x2 : Int32} {x3 : Int32} {x4 : Int32} (hR : ∀ (x5 : Int32) (h : AH), Sim RX3 cX3_drawArcs 6 none 4 (Option.map oV) (rec x5 h) 41 [(0, .ref 58), (1, .ref 6), (2, .int x2), (3, .int x3), (4, .int x4), (5, .int x5)] [] h) : ∀ (x5 : Int32) (h : AH), Sim RX3 cX3_drawArcs 6 none 4 (Option.map oV) (fX3_drawArcs_l41b rec x2 x3 x4 x5 h) 41 [(0, .ref 58), (1, .ref 6), (2, .int x2), (3, .int x3), (4, .int x4), (5, .int x5)] [] h := by
  intro x5 h
  unfold fX3_drawArcs_l41b
  refine sim_iload 5 rfl dX3_drawArcs_41 ?_
  refine sim_aload_n 1 rfl dX3_drawArcs_43 ?_
  refine sim_getI flX3_34 rfl rfl dX3_drawArcs_44 ?_
  refine sim_icmp_ge (tgt := 113) dX3_drawArcs_47 (by decide) (fun c8 => ?_) (fun c8 => ?_)
  · exact sim_vret rfl rfl dX3_drawArcs_113
  · refine sim_iload 4 rfl dX3_drawArcs_50 ?_
    refine sim_iload 5 rfl dX3_drawArcs_52 ?_
    refine sim_cS (As := [.int x4, .int x5]) (st := []) (r := (some (.int (fX11_isIn x4 x5 h)))) (h1 := h) (okX11_isIn x4 x5 h) (fun _ => rfl) mlX3_47 mtX11_isIn rfl (Nat.le_of_ble_eq_true rfl) rfl (Nat.le_of_ble_eq_true rfl) dX3_drawArcs_54 ?_
    refine sim_letJ (fun J10 => ∀ (g9 : AH), Sim RX3 cX3_drawArcs 6 none 4 (Option.map oV) (J10 g9) 73 [(0, .ref 58), (1, .ref 6), (2, .int x2), (3, .int x3), (4, .int x4), (5, .int x5)] [] g9) (fun g9 => ?_) (fun J10 hJ10 => ?_)
    · refine sim_iload 5 rfl dX3_drawArcs_73 ?_
      refine sim_iload_n 2 rfl dX3_drawArcs_75 ?_
      refine sim_letJ (fun J11 => Sim RX3 cX3_drawArcs 6 none 4 (Option.map oV) (J11) 89 [(0, .ref 58), (1, .ref 6), (2, .int x2), (3, .int x3), (4, .int x4), (5, .int x5)] [] g9) (?_) (fun J11 hJ11 => ?_)
      · refine sim_aload_n 0 rfl dX3_drawArcs_89 ?_
        refine sim_bipush (v := 20) (by decide) dX3_drawArcs_90 ?_
        refine sim_iload 5 rfl dX3_drawArcs_92 ?_
        refine sim_iadd dX3_drawArcs_94 ?_
        refine sim_aload_n 1 rfl dX3_drawArcs_95 ?_
        refine sim_iload 5 rfl dX3_drawArcs_96 ?_
        refine sim_iload 4 rfl dX3_drawArcs_98 ?_
        refine sim_iload_n 3 rfl dX3_drawArcs_100 ?_
        refine sim_bind (fun b12 e13 => ?_)
        refine sim_cS (As := [.ref 6, .int x5, .int x4, .int x3]) (st := [.int ((20 : Int32) + x5), .ref 58]) (r := (some (.long b12))) (h1 := g9) (okX3_waysOut x5 x4 x3 g9 b12 e13) (fun _ => rfl) mlX3_55 mtX3_waysOut rfl (Nat.le_of_ble_eq_true rfl) rfl (Nat.le_of_ble_eq_true rfl) dX3_drawArcs_101 ?_
        refine sim_cV (As := [.int ((20 : Int32) + x5), .long b12]) (st := []) (r := none) (h1 := (fX3_putArcs ((20 : Int32) + x5) b12 g9)) (okX3_putArcs ((20 : Int32) + x5) b12 g9) (fun _ => rfl) mlX3_51 mtX3_putArcs rfl rfl rfl rfl (Nat.le_of_ble_eq_true rfl) rfl (Nat.le_of_ble_eq_true rfl) dX3_drawArcs_104 ?_
        refine sim_nmH (fun g14 => ?_)
        refine sim_iinc (v := x5 + 1) (L' := [(5, .int (x5 + 1)), (0, .ref 58), (1, .ref 6), (2, .int x2), (3, .int x3), (4, .int x4)]) 5 rfl rfl rfl (by decide) dX3_drawArcs_107 ?_
        refine sim_goto (tgt := 41) dX3_drawArcs_110 (by decide) ?_
        refine sim_sub [1, 2, 3, 4, 5, 0] rfl ?_
        exact hR (x5 + 1) g14
      refine sim_icmp_eq (tgt := 89) dX3_drawArcs_76 (by decide) (fun c15 => ?_) (fun c15 => ?_)
      · exact hJ11
      · refine sim_iload 4 rfl dX3_drawArcs_79 ?_
        refine sim_iload 5 rfl dX3_drawArcs_81 ?_
        refine sim_cS (As := [.int x4, .int x5]) (st := []) (r := (some (.int (fX11_isIn x4 x5 g9)))) (h1 := g9) (okX11_isIn x4 x5 g9) (fun _ => rfl) mlX3_47 mtX11_isIn rfl (Nat.le_of_ble_eq_true rfl) rfl (Nat.le_of_ble_eq_true rfl) dX3_drawArcs_83 ?_
        refine sim_if_eq (tgt := 107) dX3_drawArcs_86 (by decide) (fun c16 => ?_) (fun c16 => ?_)
        · refine sim_iinc (v := x5 + 1) (L' := [(5, .int (x5 + 1)), (0, .ref 58), (1, .ref 6), (2, .int x2), (3, .int x3), (4, .int x4)]) 5 rfl rfl rfl (by decide) dX3_drawArcs_107 ?_
          refine sim_goto (tgt := 41) dX3_drawArcs_110 (by decide) ?_
          refine sim_sub [1, 2, 3, 4, 5, 0] rfl ?_
          exact hR (x5 + 1) g9
        · exact hJ11
    refine sim_if_eq (tgt := 73) dX3_drawArcs_57 (by decide) (fun c17 => ?_) (fun c17 => ?_)
    · exact hJ10 h
    · refine sim_aload_n 0 rfl dX3_drawArcs_60 ?_
      refine sim_iload 5 rfl dX3_drawArcs_61 ?_
      refine sim_lconst (v := 1) (by decide) dX3_drawArcs_63 ?_
      refine sim_bipush (v := 20) (by decide) dX3_drawArcs_64 ?_
      refine sim_iload 5 rfl dX3_drawArcs_66 ?_
      refine sim_iadd dX3_drawArcs_68 ?_
      refine sim_lshl dX3_drawArcs_69 ?_
      refine sim_cV (As := [.int x5, .long (jshlL (1 : Int64) ((20 : Int32) + x5))]) (st := []) (r := none) (h1 := (fX3_putArcs x5 (jshlL (1 : Int64) ((20 : Int32) + x5)) h)) (okX3_putArcs x5 (jshlL (1 : Int64) ((20 : Int32) + x5)) h) (fun _ => rfl) mlX3_51 mtX3_putArcs rfl rfl rfl rfl (Nat.le_of_ble_eq_true rfl) rfl (Nat.le_of_ble_eq_true rfl) dX3_drawArcs_70 ?_
      refine sim_nmH (fun g18 => ?_)
      exact hJ10 g18
theorem sX3_drawArcs_l41 {x2 : Int32} {x3 : Int32} {x4 : Int32} : ∀ (n : Nat) (x5 : Int32) (h : AH), Sim RX3 cX3_drawArcs 6 none 4 (Option.map oV) (fX3_drawArcs_l41 x2 x3 x4 n x5 h) 41 [(0, .ref 58), (1, .ref 6), (2, .int x2), (3, .int x3), (4, .int x4), (5, .int x5)] [] h := by
  intro n
  induction n with
  | zero => intro x5 h; exact sim_none
  | succ n ih => intro x5 h; exact sX3_drawArcs_l41b ih x5 h
def fX3_drawArcs (p2 : Int32) (p3 : Int32) (h : AH) : Option AH :=
  fX3_drawArcs_l3 (fun (g4 : AH) =>
    (fX6_standingOn p2 g4).bind (fun b5 =>
    letT (b5 &&& (p3 ^^^ (-1 : Int32))) (fun v7 =>
    fX3_drawArcs_l41 p2 p3 v7 fuel0 p2 g4))) p2 p3 fuel0 (0 : Int32) h
theorem sX3_drawArcs (p2 : Int32) (p3 : Int32) (h : AH) : Sim RX3 cX3_drawArcs 6 none 4 (Option.map oV) (fX3_drawArcs p2 p3 h) 0 [(0, .ref 58), (1, .ref 6), (2, .int p2), (3, .int p3)] [] h := by
  unfold fX3_drawArcs
  refine sim_iconst (v := 0) (by decide) dX3_drawArcs_0 ?_
  refine sim_istore (L' := [(4, .int (0 : Int32)), (0, .ref 58), (1, .ref 6), (2, .int p2), (3, .int p3)]) rfl (by decide) dX3_drawArcs_1 ?_
  refine sim_sub [1, 2, 3, 4, 0] rfl ?_
  refine sX3_drawArcs_l3 (fun g4 => ?_) _ (0 : Int32) h
  · refine sim_aload_n 1 rfl dX3_drawArcs_27 ?_
    refine sim_iload_n 2 rfl dX3_drawArcs_28 ?_
    refine sim_bind (fun b5 e6 => ?_)
    refine sim_cV (As := [.int p2]) (st := []) (r := (some (.int b5))) (h1 := g4) (okX6_standingOn p2 g4 b5 e6) (fun _ => rfl) mlX3_44 mtX6_standingOn rfl rfl rfl rfl (Nat.le_of_ble_eq_true rfl) rfl (Nat.le_of_ble_eq_true rfl) dX3_drawArcs_29 ?_
    refine sim_iload_n 3 rfl dX3_drawArcs_32 ?_
    refine sim_iconst (v := -1) (by decide) dX3_drawArcs_33 ?_
    refine sim_ixor dX3_drawArcs_34 ?_
    refine sim_iand dX3_drawArcs_35 ?_
    refine sim_nmI (fun v7 => ?_)
    refine sim_istore (L' := [(4, .int v7), (0, .ref 58), (1, .ref 6), (2, .int p2), (3, .int p3)]) rfl (by decide) dX3_drawArcs_36 ?_
    refine sim_iload_n 3 rfl dX3_drawArcs_38 ?_
    refine sim_istore (L' := [(5, .int p2), (4, .int v7), (0, .ref 58), (1, .ref 6), (2, .int p2), (3, .int p3)]) rfl (by decide) dX3_drawArcs_39 ?_
    refine sim_sub [2, 3, 4, 5, 1, 0] rfl ?_
    refine sX3_drawArcs_l41 _ p2 g4
theorem okX3_drawArcs (p2 : Int32) (p3 : Int32) (h : AH) (b : AH) (e : fX3_drawArcs p2 p3 h = some b) : Ok yX3_drawArcs cX3_drawArcs 6 none 4 [.ref 58, .ref 6, .int p2, .int p3] h (none, b) := ok_of (sX3_drawArcs p2 p3 h) (by rw [e]; rfl) (by decide +kernel) (Nat.le_of_ble_eq_true rfl)
def fX3_arcsOf (p1 : Int32) (h : AH) : Int64 :=
  if p1 < 0 then
    (0 : Int64)
  else
    if p1 < (41 : Int32) then
      h.2 59 p1.toNatClampNeg
    else
      (0 : Int64)
theorem sX3_arcsOf (p1 : Int32) (h : AH) : Sim RX3 cX3_arcsOf 2 (some .long) 1 (tJ h) (fX3_arcsOf p1 h) 0 [(0, .ref 58), (1, .int p1)] [] h := by
  unfold fX3_arcsOf
  refine sim_iload_n 1 rfl dX3_arcsOf_0 ?_
  refine sim_if_lt (tgt := 22) dX3_arcsOf_1 (by decide) (fun c1 => ?_) (fun c1 => ?_)
  · refine sim_lconst (v := 0) (by decide) dX3_arcsOf_22 ?_
    exact sim_lret rfl rfl dX3_arcsOf_23
  · refine sim_iload_n 1 rfl dX3_arcsOf_4 ?_
    refine sim_aload_n 0 rfl dX3_arcsOf_5 ?_
    refine sim_getR flX3_11 rfl rfl dX3_arcsOf_6 ?_
    refine sim_alen (v := 41) rfl (by decide) rfl dX3_arcsOf_9 ?_
    refine sim_icmp_ge (tgt := 22) dX3_arcsOf_10 (by decide) (fun c2 => ?_) (fun c2 => ?_)
    · refine sim_lconst (v := 0) (by decide) dX3_arcsOf_22 ?_
      exact sim_lret rfl rfl dX3_arcsOf_23
    · refine sim_aload_n 0 rfl dX3_arcsOf_13 ?_
      refine sim_getR flX3_11 rfl rfl dX3_arcsOf_14 ?_
      refine sim_iload_n 1 rfl dX3_arcsOf_17 ?_
      refine sim_lald rfl (vp_lit (by decide) c1 c2) dX3_arcsOf_18 ?_
      refine sim_goto (tgt := 23) dX3_arcsOf_19 (by decide) ?_
      exact sim_lret rfl rfl dX3_arcsOf_23
theorem okX3_arcsOf (p1 : Int32) (h : AH) : Ok yX3_arcsOf cX3_arcsOf 2 (some .long) 1 [.ref 58, .int p1] h (some (.long (fX3_arcsOf p1 h)), h) := ok_of (sX3_arcsOf p1 h) rfl (by decide +kernel) (Nat.le_of_ble_eq_true rfl)
def fX3_reachedFrom_l64b (rec : Int32 → Int32 → AH → Option (Int64 × AH)) (K121 : Int32 → AH → Option (Int64 × AH)) (x2 : Int64) (x5 : Int32) (x6 : Int32) (x7 : Int64) (x4 : Int32) (x9 : Int32) (h : AH) : Option (Int64 × AH) :=
  if (40 : Int32) < x9 then
    K121 x4 h
  else
    if (lg_cmp x7 (0 : Int64)) = 0 then
      K121 x4 h
    else
      if (lg_cmp ((jshrL x7 x9) &&& (1 : Int64)) (0 : Int64)) = 0 then
        rec x4 (x9 + 1) h
      else
        letT (fX11_put 60 x9 x6 h) (fun g10 =>
        letT (fX11_put 61 x4 x9 g10) (fun g11 =>
        rec (x4 + 1) (x9 + 1) g11))
def fX3_reachedFrom_l64 (K121 : Int32 → AH → Option (Int64 × AH)) (x2 : Int64) (x5 : Int32) (x6 : Int32) (x7 : Int64) : Nat → Int32 → Int32 → AH → Option (Int64 × AH)
  | 0, _, _, _ => none
  | n + 1, x4, x9, h => fX3_reachedFrom_l64b (fX3_reachedFrom_l64 K121 x2 x5 x6 x7 n) K121 x2 x5 x6 x7 x4 x9 h
theorem sX3_reachedFrom_l64b {rec : Int32 → Int32 → AH → Option (Int64 × AH)} {K121 : Int32 → AH → Option (Int64 × AH)} {x2 : Int64} {x5 : Int32} {x6 : Int32} {x7 : Int64} (hR : ∀ (x4 : Int32) (x9 : Int32) (h : AH), Sim RX3 cX3_reachedFrom 10 (some .long) 2 (Option.map oJ) (rec x4 x9 h) 64 [(0, .ref 58), (2, .long x2), (4, .int x4), (5, .int x5), (6, .int x6), (7, .long x7), (9, .int x9)] [] h) (hK121 : ∀ (y4 : Int32) (g : AH), Sim RX3 cX3_reachedFrom 10 (some .long) 2 (Option.map oJ) (K121 y4 g) 121 [(0, .ref 58), (2, .long x2), (4, .int y4), (5, .int x5), (7, .long x7)] [] g) : ∀ (x4 : Int32) (x9 : Int32) (h : AH), Sim RX3 cX3_reachedFrom 10 (some .long) 2 (Option.map oJ) (fX3_reachedFrom_l64b rec K121 x2 x5 x6 x7 x4 x9 h) 64 [(0, .ref 58), (2, .long x2), (4, .int x4), (5, .int x5), (6, .int x6), (7, .long x7), (9, .int x9)] [] h := by
  intro x4 x9 h
  unfold fX3_reachedFrom_l64b
  refine sim_iload 6 rfl dX3_reachedFrom_64 ?_
  refine sim_bipush (v := 40) (by decide) dX3_reachedFrom_66 ?_
  refine sim_icmp_gt (tgt := 121) dX3_reachedFrom_68 (by decide) (fun c7 => ?_) (fun c7 => ?_)
  · refine sim_sub [0, 1, 2, 3, 5] rfl ?_
    exact hK121 x4 h
  · refine sim_lload 5 rfl dX3_reachedFrom_71 ?_
    refine sim_lconst (v := 0) (by decide) dX3_reachedFrom_73 ?_
    refine sim_lcmp dX3_reachedFrom_74 ?_
    refine sim_if_eq (tgt := 121) dX3_reachedFrom_75 (by decide) (fun c8 => ?_) (fun c8 => ?_)
    · refine sim_sub [0, 1, 2, 3, 5] rfl ?_
      exact hK121 x4 h
    · refine sim_lload 5 rfl dX3_reachedFrom_78 ?_
      refine sim_iload 6 rfl dX3_reachedFrom_80 ?_
      refine sim_lshr dX3_reachedFrom_82 ?_
      refine sim_lconst (v := 1) (by decide) dX3_reachedFrom_83 ?_
      refine sim_land dX3_reachedFrom_84 ?_
      refine sim_lconst (v := 0) (by decide) dX3_reachedFrom_85 ?_
      refine sim_lcmp dX3_reachedFrom_86 ?_
      refine sim_if_eq (tgt := 115) dX3_reachedFrom_87 (by decide) (fun c9 => ?_) (fun c9 => ?_)
      · refine sim_iinc (v := x9 + 1) (L' := [(9, .int (x9 + 1)), (0, .ref 58), (2, .long x2), (4, .int x4), (5, .int x5), (6, .int x6), (7, .long x7)]) 6 rfl rfl rfl (by decide) dX3_reachedFrom_115 ?_
        refine sim_goto (tgt := 64) dX3_reachedFrom_118 (by decide) ?_
        refine sim_sub [1, 2, 3, 4, 5, 6, 0] rfl ?_
        exact hR x4 (x9 + 1) h
      · refine sim_aload_n 0 rfl dX3_reachedFrom_90 ?_
        refine sim_getR flX3_15 rfl rfl dX3_reachedFrom_91 ?_
        refine sim_iload 6 rfl dX3_reachedFrom_94 ?_
        refine sim_iload 4 rfl dX3_reachedFrom_96 ?_
        refine sim_cS (As := [.ref 60, .int x9, .int x6]) (st := []) (r := none) (h1 := (fX11_put 60 x9 x6 h)) (okX11_put 60 rfl x9 x6 h) (fun _ => rfl) mlX3_64 mtX11_put rfl (Nat.le_of_ble_eq_true rfl) rfl (Nat.le_of_ble_eq_true rfl) dX3_reachedFrom_98 ?_
        refine sim_nmH (fun g10 => ?_)
        refine sim_aload_n 0 rfl dX3_reachedFrom_101 ?_
        refine sim_getR flX3_19 rfl rfl dX3_reachedFrom_102 ?_
        refine sim_iload 2 rfl dX3_reachedFrom_105 ?_
        refine sim_iload 6 rfl dX3_reachedFrom_107 ?_
        refine sim_cS (As := [.ref 61, .int x4, .int x9]) (st := []) (r := none) (h1 := (fX11_put 61 x4 x9 g10)) (okX11_put 61 rfl x4 x9 g10) (fun _ => rfl) mlX3_64 mtX11_put rfl (Nat.le_of_ble_eq_true rfl) rfl (Nat.le_of_ble_eq_true rfl) dX3_reachedFrom_109 ?_
        refine sim_nmH (fun g11 => ?_)
        refine sim_iinc (v := x4 + 1) (L' := [(4, .int (x4 + 1)), (0, .ref 58), (2, .long x2), (5, .int x5), (6, .int x6), (7, .long x7), (9, .int x9)]) 2 rfl rfl rfl (by decide) dX3_reachedFrom_112 ?_
        refine sim_iinc (v := x9 + 1) (L' := [(9, .int (x9 + 1)), (4, .int (x4 + 1)), (0, .ref 58), (2, .long x2), (5, .int x5), (6, .int x6), (7, .long x7)]) 6 rfl rfl rfl (by decide) dX3_reachedFrom_115 ?_
        refine sim_goto (tgt := 64) dX3_reachedFrom_118 (by decide) ?_
        refine sim_sub [2, 3, 1, 4, 5, 6, 0] rfl ?_
        exact hR (x4 + 1) (x9 + 1) g11
theorem sX3_reachedFrom_l64 {K121 : Int32 → AH → Option (Int64 × AH)} {x2 : Int64} {x5 : Int32} {x6 : Int32} {x7 : Int64} (hK121 : ∀ (y4 : Int32) (g : AH), Sim RX3 cX3_reachedFrom 10 (some .long) 2 (Option.map oJ) (K121 y4 g) 121 [(0, .ref 58), (2, .long x2), (4, .int y4), (5, .int x5), (7, .long x7)] [] g) : ∀ (n : Nat) (x4 : Int32) (x9 : Int32) (h : AH), Sim RX3 cX3_reachedFrom 10 (some .long) 2 (Option.map oJ) (fX3_reachedFrom_l64 K121 x2 x5 x6 x7 n x4 x9 h) 64 [(0, .ref 58), (2, .long x2), (4, .int x4), (5, .int x5), (6, .int x6), (7, .long x7), (9, .int x9)] [] h := by
  intro n
  induction n with
  | zero => intro x4 x9 h; exact sim_none
  | succ n ih => intro x4 x9 h; exact sX3_reachedFrom_l64b ih hK121 x4 x9 h
def fX3_reachedFrom_l19b (rec : Int64 → Int32 → Int32 → AH → Option (Int64 × AH)) (x2 : Int64) (x4 : Int32) (x5 : Int32) (h : AH) : Option (Int64 × AH) :=
  if x5 < x4 then
    if x5 < (41 : Int32) then
      letT (fX11_at 61 x5 h) (fun v5 =>
      letT ((fX3_arcsOf v5 h) &&& (x2 ^^^ (-1 : Int64))) (fun v6 =>
      fX3_reachedFrom_l64 (fun (y12 : Int32) (g13 : AH) =>
        rec (x2 ||| v6) y12 (x5 + 1) g13) x2 x5 v5 v6 fuel0 x4 (0 : Int32) h))
    else
      some (x2, h)
  else
    some (x2, h)
def fX3_reachedFrom_l19 : Nat → Int64 → Int32 → Int32 → AH → Option (Int64 × AH)
  | 0, _, _, _, _ => none
  | n + 1, x2, x4, x5, h => fX3_reachedFrom_l19b (fX3_reachedFrom_l19 n) x2 x4 x5 h
theorem sX3_reachedFrom_l19b {rec : Int64 → Int32 → Int32 → AH → Option (Int64 × AH)} (hR : ∀ (x2 : Int64) (x4 : Int32) (x5 : Int32) (h : AH), Sim RX3 cX3_reachedFrom 10 (some .long) 2 (Option.map oJ) (rec x2 x4 x5 h) 19 [(0, .ref 58), (2, .long x2), (4, .int x4), (5, .int x5)] [] h) : ∀ (x2 : Int64) (x4 : Int32) (x5 : Int32) (h : AH), Sim RX3 cX3_reachedFrom 10 (some .long) 2 (Option.map oJ) (fX3_reachedFrom_l19b rec x2 x4 x5 h) 19 [(0, .ref 58), (2, .long x2), (4, .int x4), (5, .int x5)] [] h := by
  intro x2 x4 x5 h
  unfold fX3_reachedFrom_l19b
  refine sim_iload 3 rfl dX3_reachedFrom_19 ?_
  refine sim_iload 2 rfl dX3_reachedFrom_21 ?_
  refine sim_icmp_ge (tgt := 132) dX3_reachedFrom_23 (by decide) (fun c3 => ?_) (fun c3 => ?_)
  · refine sim_lload_n 1 rfl dX3_reachedFrom_132 ?_
    exact sim_lret rfl rfl dX3_reachedFrom_133
  · refine sim_iload 3 rfl dX3_reachedFrom_26 ?_
    refine sim_aload_n 0 rfl dX3_reachedFrom_28 ?_
    refine sim_getR flX3_19 rfl rfl dX3_reachedFrom_29 ?_
    refine sim_alen (v := 41) rfl (by decide) rfl dX3_reachedFrom_32 ?_
    refine sim_icmp_ge (tgt := 132) dX3_reachedFrom_33 (by decide) (fun c4 => ?_) (fun c4 => ?_)
    · refine sim_lload_n 1 rfl dX3_reachedFrom_132 ?_
      exact sim_lret rfl rfl dX3_reachedFrom_133
    · refine sim_aload_n 0 rfl dX3_reachedFrom_36 ?_
      refine sim_getR flX3_19 rfl rfl dX3_reachedFrom_37 ?_
      refine sim_iload 3 rfl dX3_reachedFrom_40 ?_
      refine sim_cS (As := [.ref 61, .int x5]) (st := []) (r := (some (.int (fX11_at 61 x5 h)))) (h1 := h) (okX11_at 61 rfl x5 h) (fun _ => rfl) mlX3_68 mtX11_at rfl (Nat.le_of_ble_eq_true rfl) rfl (Nat.le_of_ble_eq_true rfl) dX3_reachedFrom_42 ?_
      refine sim_nmI (fun v5 => ?_)
      refine sim_istore (L' := [(6, .int v5), (0, .ref 58), (2, .long x2), (4, .int x4), (5, .int x5)]) rfl (by decide) dX3_reachedFrom_45 ?_
      refine sim_aload_n 1 rfl dX3_reachedFrom_47 ?_
      refine sim_iload 0 rfl dX3_reachedFrom_48 ?_
      refine sim_cV (As := [.int v5]) (st := []) (r := (some (.long (fX3_arcsOf v5 h)))) (h1 := h) (okX3_arcsOf v5 h) (fun _ => rfl) mlX3_72 mtX3_arcsOf rfl rfl rfl rfl (Nat.le_of_ble_eq_true rfl) rfl (Nat.le_of_ble_eq_true rfl) dX3_reachedFrom_50 ?_
      refine sim_lload_n 2 rfl dX3_reachedFrom_53 ?_
      refine sim_ldc2 kcX3_75 dX3_reachedFrom_54 ?_
      refine sim_lxor dX3_reachedFrom_57 ?_
      refine sim_land dX3_reachedFrom_58 ?_
      refine sim_nmJ (fun v6 => ?_)
      refine sim_lstore (L' := [(7, .long v6), (6, .int v5), (0, .ref 58), (2, .long x2), (4, .int x4), (5, .int x5)]) rfl (by decide) dX3_reachedFrom_59 ?_
      refine sim_iconst (v := 0) (by decide) dX3_reachedFrom_61 ?_
      refine sim_istore (L' := [(9, .int (0 : Int32)), (7, .long v6), (6, .int v5), (0, .ref 58), (2, .long x2), (4, .int x4), (5, .int x5)]) rfl (by decide) dX3_reachedFrom_62 ?_
      refine sim_sub [3, 4, 5, 6, 2, 1, 0] rfl ?_
      refine sX3_reachedFrom_l64 (fun y12 g13 => ?_) _ x4 (0 : Int32) h
      · refine sim_lload_n 1 rfl dX3_reachedFrom_121 ?_
        refine sim_lload 4 rfl dX3_reachedFrom_122 ?_
        refine sim_lor dX3_reachedFrom_124 ?_
        refine sim_lstore_n (L' := [(2, .long (x2 ||| v6)), (0, .ref 58), (4, .int y12), (5, .int x5), (7, .long v6)]) rfl (by decide) dX3_reachedFrom_125 ?_
        refine sim_iinc (v := x5 + 1) (L' := [(5, .int (x5 + 1)), (2, .long (x2 ||| v6)), (0, .ref 58), (4, .int y12), (7, .long v6)]) 3 rfl rfl rfl (by decide) dX3_reachedFrom_126 ?_
        refine sim_goto (tgt := 19) dX3_reachedFrom_129 (by decide) ?_
        refine sim_sub [2, 1, 3, 0] rfl ?_
        exact hR (x2 ||| v6) y12 (x5 + 1) g13
theorem sX3_reachedFrom_l19 : ∀ (n : Nat) (x2 : Int64) (x4 : Int32) (x5 : Int32) (h : AH), Sim RX3 cX3_reachedFrom 10 (some .long) 2 (Option.map oJ) (fX3_reachedFrom_l19 n x2 x4 x5 h) 19 [(0, .ref 58), (2, .long x2), (4, .int x4), (5, .int x5)] [] h := by
  intro n
  induction n with
  | zero => intro x2 x4 x5 h; exact sim_none
  | succ n ih => intro x2 x4 x5 h; exact sX3_reachedFrom_l19b ih x2 x4 x5 h
def fX3_reachedFrom (p1 : Int32) (h : AH) : Option (Int64 × AH) :=
  letT (jshlL (1 : Int64) p1) (fun v1 =>
  letT (fX11_put 61 (0 : Int32) p1 h) (fun g2 =>
  fX3_reachedFrom_l19 fuel0 v1 (1 : Int32) (0 : Int32) g2))
theorem sX3_reachedFrom (p1 : Int32) (h : AH) : Sim RX3 cX3_reachedFrom 10 (some .long) 2 (Option.map oJ) (fX3_reachedFrom p1 h) 0 [(0, .ref 58), (1, .int p1)] [] h := by
  unfold fX3_reachedFrom
  refine sim_lconst (v := 1) (by decide) dX3_reachedFrom_0 ?_
  refine sim_iload_n 1 rfl dX3_reachedFrom_1 ?_
  refine sim_lshl dX3_reachedFrom_2 ?_
  refine sim_nmJ (fun v1 => ?_)
  refine sim_lstore_n (L' := [(2, .long v1), (0, .ref 58), (1, .int p1)]) rfl (by decide) dX3_reachedFrom_3 ?_
  refine sim_iconst (v := 1) (by decide) dX3_reachedFrom_4 ?_
  refine sim_istore (L' := [(4, .int (1 : Int32)), (2, .long v1), (0, .ref 58), (1, .int p1)]) rfl (by decide) dX3_reachedFrom_5 ?_
  refine sim_aload_n 2 rfl dX3_reachedFrom_7 ?_
  refine sim_getR flX3_19 rfl rfl dX3_reachedFrom_8 ?_
  refine sim_iconst (v := 0) (by decide) dX3_reachedFrom_11 ?_
  refine sim_iload_n 3 rfl dX3_reachedFrom_12 ?_
  refine sim_cS (As := [.ref 61, .int (0 : Int32), .int p1]) (st := []) (r := none) (h1 := (fX11_put 61 (0 : Int32) p1 h)) (okX11_put 61 rfl (0 : Int32) p1 h) (fun _ => rfl) mlX3_64 mtX11_put rfl (Nat.le_of_ble_eq_true rfl) rfl (Nat.le_of_ble_eq_true rfl) dX3_reachedFrom_13 ?_
  refine sim_nmH (fun g2 => ?_)
  refine sim_iconst (v := 0) (by decide) dX3_reachedFrom_16 ?_
  refine sim_istore (L' := [(5, .int (0 : Int32)), (4, .int (1 : Int32)), (2, .long v1), (0, .ref 58), (1, .int p1)]) rfl (by decide) dX3_reachedFrom_17 ?_
  refine sim_sub [3, 2, 1, 0] rfl ?_
  refine sX3_reachedFrom_l19 _ v1 (1 : Int32) (0 : Int32) g2
theorem okX3_reachedFrom (p1 : Int32) (h : AH) (b : Int64 × AH) (e : fX3_reachedFrom p1 h = some b) : Ok yX3_reachedFrom cX3_reachedFrom 10 (some .long) 2 [.ref 58, .int p1] h (some (.long b.1), b.2) := ok_of (sX3_reachedFrom p1 h) (by rw [e]; rfl) (by decide +kernel) (Nat.le_of_ble_eq_true rfl)
def fX3_turnArcs_l5b (rec : Int32 → Int32 → AH → Option AH) (x1 : Int32) (x2 : Int32) (x3 : Int32) (h : AH) : Option AH :=
  if (40 : Int32) < x3 then
    some h
  else
    if x2 = x1 then
      some h
    else
      letT (fX11_at 60 x2 h) (fun v3 =>
      letT (fun (w4 : Int32) =>
        letT (fun (g6 : AH) =>
          letT (fX3_putArcs x2 ((fX3_arcsOf x2 g6) ||| (jshlL (1 : Int64) v3)) g6) (fun g8 =>
          rec v3 (x3 + 1) g8)) (fun J7 =>
        if w4 = 0 then
          letT (fX3_putArcs v3 ((fX3_arcsOf v3 h) &&& ((jshlL (1 : Int64) x2) ^^^ (-1 : Int64))) h) (fun g10 =>
          J7 g10)
        else
          J7 h)) (fun J5 =>
      letT (J5 (0 : Int32)) (fun J11 =>
      if v3 < (20 : Int32) then
        J11
      else
        if x2 = (v3 - (20 : Int32)) then
          J11
        else
          J5 (1 : Int32))))
def fX3_turnArcs_l5 (x1 : Int32) : Nat → Int32 → Int32 → AH → Option AH
  | 0, _, _, _ => none
  | n + 1, x2, x3, h => fX3_turnArcs_l5b (fX3_turnArcs_l5 x1 n) x1 x2 x3 h
theorem sX3_turnArcs_l5b {rec : Int32 → Int32 → AH → Option AH} {x1 : Int32} (hR : ∀ (x2 : Int32) (x3 : Int32) (h : AH), Sim RX3 cX3_turnArcs 6 none 2 (Option.map oV) (rec x2 x3 h) 5 [(0, .ref 58), (1, .int x1), (2, .int x2), (3, .int x3)] [] h) : ∀ (x2 : Int32) (x3 : Int32) (h : AH), Sim RX3 cX3_turnArcs 6 none 2 (Option.map oV) (fX3_turnArcs_l5b rec x1 x2 x3 h) 5 [(0, .ref 58), (1, .int x1), (2, .int x2), (3, .int x3)] [] h := by
  intro x2 x3 h
  unfold fX3_turnArcs_l5b
  refine sim_iload_n 3 rfl dX3_turnArcs_5 ?_
  refine sim_bipush (v := 40) (by decide) dX3_turnArcs_6 ?_
  refine sim_icmp_gt (tgt := 98) dX3_turnArcs_8 (by decide) (fun c1 => ?_) (fun c1 => ?_)
  · exact sim_vret rfl rfl dX3_turnArcs_98
  · refine sim_iload_n 2 rfl dX3_turnArcs_11 ?_
    refine sim_iload_n 1 rfl dX3_turnArcs_12 ?_
    refine sim_icmp_eq (tgt := 98) dX3_turnArcs_13 (by decide) (fun c2 => ?_) (fun c2 => ?_)
    · exact sim_vret rfl rfl dX3_turnArcs_98
    · refine sim_aload_n 0 rfl dX3_turnArcs_16 ?_
      refine sim_getR flX3_15 rfl rfl dX3_turnArcs_17 ?_
      refine sim_iload_n 2 rfl dX3_turnArcs_20 ?_
      refine sim_cS (As := [.ref 60, .int x2]) (st := []) (r := (some (.int (fX11_at 60 x2 h)))) (h1 := h) (okX11_at 60 rfl x2 h) (fun _ => rfl) mlX3_68 mtX11_at rfl (Nat.le_of_ble_eq_true rfl) rfl (Nat.le_of_ble_eq_true rfl) dX3_turnArcs_21 ?_
      refine sim_nmI (fun v3 => ?_)
      refine sim_istore (L' := [(4, .int v3), (0, .ref 58), (1, .int x1), (2, .int x2), (3, .int x3)]) rfl (by decide) dX3_turnArcs_24 ?_
      refine sim_iload 0 rfl dX3_turnArcs_26 ?_
      refine sim_bipush (v := 20) (by decide) dX3_turnArcs_28 ?_
      refine sim_letJ (fun J5 => ∀ (w4 : Int32), Sim RX3 cX3_turnArcs 6 none 2 (Option.map oV) (J5 w4) 47 [(0, .ref 58), (1, .int x1), (2, .int x2), (3, .int x3), (4, .int v3)] [.int w4] h) (fun w4 => ?_) (fun J5 hJ5 => ?_)
      · refine sim_istore (L' := [(5, .int w4), (0, .ref 58), (1, .int x1), (2, .int x2), (3, .int x3), (4, .int v3)]) rfl (by decide) dX3_turnArcs_47 ?_
        refine sim_iload 0 rfl dX3_turnArcs_49 ?_
        refine sim_letJ (fun J7 => ∀ (g6 : AH), Sim RX3 cX3_turnArcs 6 none 2 (Option.map oV) (J7 g6) 74 [(0, .ref 58), (1, .int x1), (2, .int x2), (3, .int x3), (4, .int v3)] [] g6) (fun g6 => ?_) (fun J7 hJ7 => ?_)
        · refine sim_aload_n 0 rfl dX3_turnArcs_74 ?_
          refine sim_iload_n 2 rfl dX3_turnArcs_75 ?_
          refine sim_aload_n 0 rfl dX3_turnArcs_76 ?_
          refine sim_iload_n 2 rfl dX3_turnArcs_77 ?_
          refine sim_cV (As := [.int x2]) (st := [.int x2, .ref 58]) (r := (some (.long (fX3_arcsOf x2 g6)))) (h1 := g6) (okX3_arcsOf x2 g6) (fun _ => rfl) mlX3_72 mtX3_arcsOf rfl rfl rfl rfl (Nat.le_of_ble_eq_true rfl) rfl (Nat.le_of_ble_eq_true rfl) dX3_turnArcs_78 ?_
          refine sim_lconst (v := 1) (by decide) dX3_turnArcs_81 ?_
          refine sim_iload 4 rfl dX3_turnArcs_82 ?_
          refine sim_lshl dX3_turnArcs_84 ?_
          refine sim_lor dX3_turnArcs_85 ?_
          refine sim_cV (As := [.int x2, .long ((fX3_arcsOf x2 g6) ||| (jshlL (1 : Int64) v3))]) (st := []) (r := none) (h1 := (fX3_putArcs x2 ((fX3_arcsOf x2 g6) ||| (jshlL (1 : Int64) v3)) g6)) (okX3_putArcs x2 ((fX3_arcsOf x2 g6) ||| (jshlL (1 : Int64) v3)) g6) (fun _ => rfl) mlX3_51 mtX3_putArcs rfl rfl rfl rfl (Nat.le_of_ble_eq_true rfl) rfl (Nat.le_of_ble_eq_true rfl) dX3_turnArcs_86 ?_
          refine sim_nmH (fun g8 => ?_)
          refine sim_iload 4 rfl dX3_turnArcs_89 ?_
          refine sim_istore_n (L' := [(2, .int v3), (0, .ref 58), (1, .int x1), (3, .int x3), (4, .int v3)]) rfl (by decide) dX3_turnArcs_91 ?_
          refine sim_iinc (v := x3 + 1) (L' := [(3, .int (x3 + 1)), (2, .int v3), (0, .ref 58), (1, .int x1), (4, .int v3)]) 3 rfl rfl rfl (by decide) dX3_turnArcs_92 ?_
          refine sim_goto (tgt := 5) dX3_turnArcs_95 (by decide) ?_
          refine sim_sub [2, 3, 1, 0] rfl ?_
          exact hR v3 (x3 + 1) g8
        refine sim_if_ne (tgt := 74) dX3_turnArcs_51 (by decide) (fun c9 => ?_) (fun c9 => ?_)
        · refine sim_sub [1, 2, 3, 4, 5] rfl ?_
          exact hJ7 h
        · refine sim_aload_n 1 rfl dX3_turnArcs_54 ?_
          refine sim_iload 5 rfl dX3_turnArcs_55 ?_
          refine sim_aload_n 1 rfl dX3_turnArcs_57 ?_
          refine sim_iload 5 rfl dX3_turnArcs_58 ?_
          refine sim_cV (As := [.int v3]) (st := [.int v3, .ref 58]) (r := (some (.long (fX3_arcsOf v3 h)))) (h1 := h) (okX3_arcsOf v3 h) (fun _ => rfl) mlX3_72 mtX3_arcsOf rfl rfl rfl rfl (Nat.le_of_ble_eq_true rfl) rfl (Nat.le_of_ble_eq_true rfl) dX3_turnArcs_60 ?_
          refine sim_lconst (v := 1) (by decide) dX3_turnArcs_63 ?_
          refine sim_iload_n 3 rfl dX3_turnArcs_64 ?_
          refine sim_lshl dX3_turnArcs_65 ?_
          refine sim_ldc2 kcX3_75 dX3_turnArcs_66 ?_
          refine sim_lxor dX3_turnArcs_69 ?_
          refine sim_land dX3_turnArcs_70 ?_
          refine sim_cV (As := [.int v3, .long ((fX3_arcsOf v3 h) &&& ((jshlL (1 : Int64) x2) ^^^ (-1 : Int64)))]) (st := []) (r := none) (h1 := (fX3_putArcs v3 ((fX3_arcsOf v3 h) &&& ((jshlL (1 : Int64) x2) ^^^ (-1 : Int64))) h)) (okX3_putArcs v3 ((fX3_arcsOf v3 h) &&& ((jshlL (1 : Int64) x2) ^^^ (-1 : Int64))) h) (fun _ => rfl) mlX3_51 mtX3_putArcs rfl rfl rfl rfl (Nat.le_of_ble_eq_true rfl) rfl (Nat.le_of_ble_eq_true rfl) dX3_turnArcs_71 ?_
          refine sim_nmH (fun g10 => ?_)
          refine sim_sub [1, 2, 3, 4, 5] rfl ?_
          exact hJ7 g10
      refine sim_letJ (fun J11 => Sim RX3 cX3_turnArcs 6 none 2 (Option.map oV) (J11) 46 [(0, .ref 58), (1, .int x1), (2, .int x2), (3, .int x3), (4, .int v3)] [] h) (?_) (fun J11 hJ11 => ?_)
      · refine sim_iconst (v := 0) (by decide) dX3_turnArcs_46 ?_
        exact hJ5 (0 : Int32)
      refine sim_icmp_lt (tgt := 46) dX3_turnArcs_30 (by decide) (fun c12 => ?_) (fun c12 => ?_)
      · refine sim_sub [1, 2, 3, 4, 0] rfl ?_
        exact hJ11
      · refine sim_iload_n 3 rfl dX3_turnArcs_33 ?_
        refine sim_iload 0 rfl dX3_turnArcs_34 ?_
        refine sim_bipush (v := 20) (by decide) dX3_turnArcs_36 ?_
        refine sim_isub dX3_turnArcs_38 ?_
        refine sim_icmp_eq (tgt := 46) dX3_turnArcs_39 (by decide) (fun c13 => ?_) (fun c13 => ?_)
        · refine sim_sub [1, 2, 3, 4, 0] rfl ?_
          exact hJ11
        · refine sim_iconst (v := 1) (by decide) dX3_turnArcs_42 ?_
          refine sim_goto (tgt := 47) dX3_turnArcs_43 (by decide) ?_
          refine sim_sub [1, 2, 3, 4, 0] rfl ?_
          exact hJ5 (1 : Int32)
theorem sX3_turnArcs_l5 {x1 : Int32} : ∀ (n : Nat) (x2 : Int32) (x3 : Int32) (h : AH), Sim RX3 cX3_turnArcs 6 none 2 (Option.map oV) (fX3_turnArcs_l5 x1 n x2 x3 h) 5 [(0, .ref 58), (1, .int x1), (2, .int x2), (3, .int x3)] [] h := by
  intro n
  induction n with
  | zero => intro x2 x3 h; exact sim_none
  | succ n ih => intro x2 x3 h; exact sX3_turnArcs_l5b ih x2 x3 h
def fX3_turnArcs (p1 : Int32) (h : AH) : Option AH :=
  fX3_turnArcs_l5 p1 fuel0 (40 : Int32) (0 : Int32) h
theorem sX3_turnArcs (p1 : Int32) (h : AH) : Sim RX3 cX3_turnArcs 6 none 2 (Option.map oV) (fX3_turnArcs p1 h) 0 [(0, .ref 58), (1, .int p1)] [] h := by
  unfold fX3_turnArcs
  refine sim_bipush (v := 40) (by decide) dX3_turnArcs_0 ?_
  refine sim_istore_n (L' := [(2, .int (40 : Int32)), (0, .ref 58), (1, .int p1)]) rfl (by decide) dX3_turnArcs_2 ?_
  refine sim_iconst (v := 0) (by decide) dX3_turnArcs_3 ?_
  refine sim_istore_n (L' := [(3, .int (0 : Int32)), (2, .int (40 : Int32)), (0, .ref 58), (1, .int p1)]) rfl (by decide) dX3_turnArcs_4 ?_
  refine sim_sub [2, 3, 1, 0] rfl ?_
  refine sX3_turnArcs_l5 _ (40 : Int32) (0 : Int32) h
theorem okX3_turnArcs (p1 : Int32) (h : AH) (b : AH) (e : fX3_turnArcs p1 h = some b) : Ok yX3_turnArcs cX3_turnArcs 6 none 2 [.ref 58, .int p1] h (none, b) := ok_of (sX3_turnArcs p1 h) (by rw [e]; rfl) (by decide +kernel) (Nat.le_of_ble_eq_true rfl)
def fX3_leastCut_l20b (rec : Int64 → Int32 → AH → Option (Int32 × AH)) (K63 : Int64 → AH → Option (Int32 × AH)) (x2 : Int32) (x4 : Int64) (x6 : Int32) (h : AH) : Option (Int32 × AH) :=
  if x6 < (20 : Int32) then
    if (lg_cmp ((jshrL x4 (40 : Int32)) &&& (1 : Int64)) (0 : Int64)) = 0 then
      K63 x4 h
    else
      (fX3_turnArcs ((20 : Int32) + x2) h).bind (fun b7 =>
      (fX3_reachedFrom ((20 : Int32) + x2) b7).bind (fun b9 =>
      rec b9.1 (x6 + 1) b9.2))
  else
    K63 x4 h
def fX3_leastCut_l20 (K63 : Int64 → AH → Option (Int32 × AH)) (x2 : Int32) : Nat → Int64 → Int32 → AH → Option (Int32 × AH)
  | 0, _, _, _ => none
  | n + 1, x4, x6, h => fX3_leastCut_l20b (fX3_leastCut_l20 K63 x2 n) K63 x2 x4 x6 h
theorem sX3_leastCut_l20b {rec : Int64 → Int32 → AH → Option (Int32 × AH)} {K63 : Int64 → AH → Option (Int32 × AH)} {x2 : Int32} (hR : ∀ (x4 : Int64) (x6 : Int32) (h : AH), Sim RX3 cX3_leastCut 8 (some .int) 5 (Option.map oI) (rec x4 x6 h) 20 [(0, .ref 58), (1, .ref 6), (2, .int x2), (4, .long x4), (6, .int x6)] [] h) (hK63 : ∀ (y4 : Int64) (g : AH), Sim RX3 cX3_leastCut 8 (some .int) 5 (Option.map oI) (K63 y4 g) 63 [(1, .ref 6), (4, .long y4)] [] g) : ∀ (x4 : Int64) (x6 : Int32) (h : AH), Sim RX3 cX3_leastCut 8 (some .int) 5 (Option.map oI) (fX3_leastCut_l20b rec K63 x2 x4 x6 h) 20 [(0, .ref 58), (1, .ref 6), (2, .int x2), (4, .long x4), (6, .int x6)] [] h := by
  intro x4 x6 h
  unfold fX3_leastCut_l20b
  refine sim_iload 4 rfl dX3_leastCut_20 ?_
  refine sim_bipush (v := 20) (by decide) dX3_leastCut_22 ?_
  refine sim_icmp_ge (tgt := 63) dX3_leastCut_24 (by decide) (fun c5 => ?_) (fun c5 => ?_)
  · refine sim_sub [1, 3] rfl ?_
    exact hK63 x4 h
  · refine sim_lload 3 rfl dX3_leastCut_27 ?_
    refine sim_bipush (v := 40) (by decide) dX3_leastCut_29 ?_
    refine sim_lshr dX3_leastCut_31 ?_
    refine sim_lconst (v := 1) (by decide) dX3_leastCut_32 ?_
    refine sim_land dX3_leastCut_33 ?_
    refine sim_lconst (v := 0) (by decide) dX3_leastCut_34 ?_
    refine sim_lcmp dX3_leastCut_35 ?_
    refine sim_if_eq (tgt := 63) dX3_leastCut_36 (by decide) (fun c6 => ?_) (fun c6 => ?_)
    · refine sim_sub [1, 3] rfl ?_
      exact hK63 x4 h
    · refine sim_aload_n 0 rfl dX3_leastCut_39 ?_
      refine sim_bipush (v := 20) (by decide) dX3_leastCut_40 ?_
      refine sim_iload_n 2 rfl dX3_leastCut_42 ?_
      refine sim_iadd dX3_leastCut_43 ?_
      refine sim_bind (fun b7 e8 => ?_)
      refine sim_cV (As := [.int ((20 : Int32) + x2)]) (st := []) (r := none) (h1 := b7) (okX3_turnArcs ((20 : Int32) + x2) h b7 e8) (fun _ => rfl) mlX3_30 mtX3_turnArcs rfl rfl rfl rfl (Nat.le_of_ble_eq_true rfl) rfl (Nat.le_of_ble_eq_true rfl) dX3_leastCut_44 ?_
      refine sim_aload_n 0 rfl dX3_leastCut_47 ?_
      refine sim_bipush (v := 20) (by decide) dX3_leastCut_48 ?_
      refine sim_iload_n 2 rfl dX3_leastCut_50 ?_
      refine sim_iadd dX3_leastCut_51 ?_
      refine sim_bind (fun b9 e10 => ?_)
      refine sim_cV (As := [.int ((20 : Int32) + x2)]) (st := []) (r := (some (.long b9.1))) (h1 := b9.2) (okX3_reachedFrom ((20 : Int32) + x2) b7 b9 e10) (fun _ => rfl) mlX3_26 mtX3_reachedFrom rfl rfl rfl rfl (Nat.le_of_ble_eq_true rfl) rfl (Nat.le_of_ble_eq_true rfl) dX3_leastCut_52 ?_
      refine sim_lstore (L' := [(4, .long b9.1), (0, .ref 58), (1, .ref 6), (2, .int x2), (6, .int x6)]) rfl (by decide) dX3_leastCut_55 ?_
      refine sim_iinc (v := x6 + 1) (L' := [(6, .int (x6 + 1)), (4, .long b9.1), (0, .ref 58), (1, .ref 6), (2, .int x2)]) 4 rfl rfl rfl (by decide) dX3_leastCut_57 ?_
      refine sim_goto (tgt := 20) dX3_leastCut_60 (by decide) ?_
      refine sim_sub [2, 3, 4, 1, 0] rfl ?_
      exact hR b9.1 (x6 + 1) b9.2
theorem sX3_leastCut_l20 {K63 : Int64 → AH → Option (Int32 × AH)} {x2 : Int32} (hK63 : ∀ (y4 : Int64) (g : AH), Sim RX3 cX3_leastCut 8 (some .int) 5 (Option.map oI) (K63 y4 g) 63 [(1, .ref 6), (4, .long y4)] [] g) : ∀ (n : Nat) (x4 : Int64) (x6 : Int32) (h : AH), Sim RX3 cX3_leastCut 8 (some .int) 5 (Option.map oI) (fX3_leastCut_l20 K63 x2 n x4 x6 h) 20 [(0, .ref 58), (1, .ref 6), (2, .int x2), (4, .long x4), (6, .int x6)] [] h := by
  intro n
  induction n with
  | zero => intro x4 x6 h; exact sim_none
  | succ n ih => intro x4 x6 h; exact sX3_leastCut_l20b ih hK63 x4 x6 h
def fX3_leastCut_l69b (rec : Int32 → Int32 → Option (Int32 × AH)) (x4 : Int64) (h : AH) (x6 : Int32) (x7 : Int32) : Option (Int32 × AH) :=
  if x7 < (h.1 6 0) then
    if (lg_cmp ((jshrL x4 x7) &&& (1 : Int64)) (0 : Int64)) = 0 then
      rec x6 (x7 + 1)
    else
      if (lg_cmp ((jshrL x4 ((20 : Int32) + x7)) &&& (1 : Int64)) (0 : Int64)) = 0 then
        letT (x6 ||| (fX11_bit x7 h)) (fun v16 =>
        rec v16 (x7 + 1))
      else
        rec x6 (x7 + 1)
  else
    some (x6, h)
def fX3_leastCut_l69 (x4 : Int64) (h : AH) : Nat → Int32 → Int32 → Option (Int32 × AH)
  | 0, _, _ => none
  | n + 1, x6, x7 => fX3_leastCut_l69b (fX3_leastCut_l69 x4 h n) x4 h x6 x7
theorem sX3_leastCut_l69b {rec : Int32 → Int32 → Option (Int32 × AH)} {x4 : Int64} {h : AH} (hR : ∀ (x6 : Int32) (x7 : Int32), Sim RX3 cX3_leastCut 8 (some .int) 5 (Option.map oI) (rec x6 x7) 69 [(1, .ref 6), (4, .long x4), (6, .int x6), (7, .int x7)] [] h) : ∀ (x6 : Int32) (x7 : Int32), Sim RX3 cX3_leastCut 8 (some .int) 5 (Option.map oI) (fX3_leastCut_l69b rec x4 h x6 x7) 69 [(1, .ref 6), (4, .long x4), (6, .int x6), (7, .int x7)] [] h := by
  intro x6 x7
  unfold fX3_leastCut_l69b
  refine sim_iload 3 rfl dX3_leastCut_69 ?_
  refine sim_aload_n 0 rfl dX3_leastCut_71 ?_
  refine sim_getI flX3_34 rfl rfl dX3_leastCut_72 ?_
  refine sim_icmp_ge (tgt := 121) dX3_leastCut_75 (by decide) (fun c13 => ?_) (fun c13 => ?_)
  · refine sim_iload 2 rfl dX3_leastCut_121 ?_
    exact sim_iret rfl rfl dX3_leastCut_123
  · refine sim_lload 1 rfl dX3_leastCut_78 ?_
    refine sim_iload 3 rfl dX3_leastCut_80 ?_
    refine sim_lshr dX3_leastCut_82 ?_
    refine sim_lconst (v := 1) (by decide) dX3_leastCut_83 ?_
    refine sim_land dX3_leastCut_84 ?_
    refine sim_lconst (v := 0) (by decide) dX3_leastCut_85 ?_
    refine sim_lcmp dX3_leastCut_86 ?_
    refine sim_if_eq (tgt := 115) dX3_leastCut_87 (by decide) (fun c14 => ?_) (fun c14 => ?_)
    · refine sim_iinc (v := x7 + 1) (L' := [(7, .int (x7 + 1)), (1, .ref 6), (4, .long x4), (6, .int x6)]) 3 rfl rfl rfl (by decide) dX3_leastCut_115 ?_
      refine sim_goto (tgt := 69) dX3_leastCut_118 (by decide) ?_
      refine sim_sub [1, 2, 3, 0] rfl ?_
      exact hR x6 (x7 + 1)
    · refine sim_lload 1 rfl dX3_leastCut_90 ?_
      refine sim_bipush (v := 20) (by decide) dX3_leastCut_92 ?_
      refine sim_iload 3 rfl dX3_leastCut_94 ?_
      refine sim_iadd dX3_leastCut_96 ?_
      refine sim_lshr dX3_leastCut_97 ?_
      refine sim_lconst (v := 1) (by decide) dX3_leastCut_98 ?_
      refine sim_land dX3_leastCut_99 ?_
      refine sim_lconst (v := 0) (by decide) dX3_leastCut_100 ?_
      refine sim_lcmp dX3_leastCut_101 ?_
      refine sim_if_ne (tgt := 115) dX3_leastCut_102 (by decide) (fun c15 => ?_) (fun c15 => ?_)
      · refine sim_iinc (v := x7 + 1) (L' := [(7, .int (x7 + 1)), (1, .ref 6), (4, .long x4), (6, .int x6)]) 3 rfl rfl rfl (by decide) dX3_leastCut_115 ?_
        refine sim_goto (tgt := 69) dX3_leastCut_118 (by decide) ?_
        refine sim_sub [1, 2, 3, 0] rfl ?_
        exact hR x6 (x7 + 1)
      · refine sim_iload 2 rfl dX3_leastCut_105 ?_
        refine sim_iload 3 rfl dX3_leastCut_107 ?_
        refine sim_cS (As := [.int x7]) (st := [.int x6]) (r := (some (.int (fX11_bit x7 h)))) (h1 := h) (okX11_bit x7 h) (fun _ => rfl) mlX3_40 mtX11_bit rfl (Nat.le_of_ble_eq_true rfl) rfl (Nat.le_of_ble_eq_true rfl) dX3_leastCut_109 ?_
        refine sim_ior dX3_leastCut_112 ?_
        refine sim_nmI (fun v16 => ?_)
        refine sim_istore (L' := [(6, .int v16), (1, .ref 6), (4, .long x4), (7, .int x7)]) rfl (by decide) dX3_leastCut_113 ?_
        refine sim_iinc (v := x7 + 1) (L' := [(7, .int (x7 + 1)), (6, .int v16), (1, .ref 6), (4, .long x4)]) 3 rfl rfl rfl (by decide) dX3_leastCut_115 ?_
        refine sim_goto (tgt := 69) dX3_leastCut_118 (by decide) ?_
        refine sim_sub [2, 3, 1, 0] rfl ?_
        exact hR v16 (x7 + 1)
theorem sX3_leastCut_l69 {x4 : Int64} {h : AH} : ∀ (n : Nat) (x6 : Int32) (x7 : Int32), Sim RX3 cX3_leastCut 8 (some .int) 5 (Option.map oI) (fX3_leastCut_l69 x4 h n x6 x7) 69 [(1, .ref 6), (4, .long x4), (6, .int x6), (7, .int x7)] [] h := by
  intro n
  induction n with
  | zero => intro x6 x7; exact sim_none
  | succ n ih => intro x6 x7; exact sX3_leastCut_l69b ih x6 x7
def fX3_leastCut (p2 : Int32) (p3 : Int32) (h : AH) : Option (Int32 × AH) :=
  (fX3_drawArcs p2 p3 h).bind (fun b1 =>
  (fX3_reachedFrom ((20 : Int32) + p2) b1).bind (fun b3 =>
  fX3_leastCut_l20 (fun (y11 : Int64) (g12 : AH) =>
    fX3_leastCut_l69 y11 g12 fuel0 (0 : Int32) (0 : Int32)) p2 fuel0 b3.1 (0 : Int32) b3.2))
theorem sX3_leastCut (p2 : Int32) (p3 : Int32) (h : AH) : Sim RX3 cX3_leastCut 8 (some .int) 5 (Option.map oI) (fX3_leastCut p2 p3 h) 0 [(0, .ref 58), (1, .ref 6), (2, .int p2), (3, .int p3)] [] h := by
  unfold fX3_leastCut
  refine sim_aload_n 0 rfl dX3_leastCut_0 ?_
  refine sim_aload_n 1 rfl dX3_leastCut_1 ?_
  refine sim_iload_n 2 rfl dX3_leastCut_2 ?_
  refine sim_iload_n 3 rfl dX3_leastCut_3 ?_
  refine sim_bind (fun b1 e2 => ?_)
  refine sim_cV (As := [.ref 6, .int p2, .int p3]) (st := []) (r := none) (h1 := b1) (okX3_drawArcs p2 p3 h b1 e2) (fun _ => rfl) mlX3_22 mtX3_drawArcs rfl rfl rfl rfl (Nat.le_of_ble_eq_true rfl) rfl (Nat.le_of_ble_eq_true rfl) dX3_leastCut_4 ?_
  refine sim_aload_n 0 rfl dX3_leastCut_7 ?_
  refine sim_bipush (v := 20) (by decide) dX3_leastCut_8 ?_
  refine sim_iload_n 2 rfl dX3_leastCut_10 ?_
  refine sim_iadd dX3_leastCut_11 ?_
  refine sim_bind (fun b3 e4 => ?_)
  refine sim_cV (As := [.int ((20 : Int32) + p2)]) (st := []) (r := (some (.long b3.1))) (h1 := b3.2) (okX3_reachedFrom ((20 : Int32) + p2) b1 b3 e4) (fun _ => rfl) mlX3_26 mtX3_reachedFrom rfl rfl rfl rfl (Nat.le_of_ble_eq_true rfl) rfl (Nat.le_of_ble_eq_true rfl) dX3_leastCut_12 ?_
  refine sim_lstore (L' := [(4, .long b3.1), (0, .ref 58), (1, .ref 6), (2, .int p2), (3, .int p3)]) rfl (by decide) dX3_leastCut_15 ?_
  refine sim_iconst (v := 0) (by decide) dX3_leastCut_17 ?_
  refine sim_istore (L' := [(6, .int (0 : Int32)), (4, .long b3.1), (0, .ref 58), (1, .ref 6), (2, .int p2), (3, .int p3)]) rfl (by decide) dX3_leastCut_18 ?_
  refine sim_sub [2, 3, 4, 1, 0] rfl ?_
  refine sX3_leastCut_l20 (fun y11 g12 => ?_) _ b3.1 (0 : Int32) b3.2
  · refine sim_iconst (v := 0) (by decide) dX3_leastCut_63 ?_
    refine sim_istore (L' := [(6, .int (0 : Int32)), (1, .ref 6), (4, .long y11)]) rfl (by decide) dX3_leastCut_64 ?_
    refine sim_iconst (v := 0) (by decide) dX3_leastCut_66 ?_
    refine sim_istore (L' := [(7, .int (0 : Int32)), (6, .int (0 : Int32)), (1, .ref 6), (4, .long y11)]) rfl (by decide) dX3_leastCut_67 ?_
    refine sim_sub [2, 3, 1, 0] rfl ?_
    refine sX3_leastCut_l69 _ (0 : Int32) (0 : Int32)
theorem okX3_leastCut (p2 : Int32) (p3 : Int32) (h : AH) (b : Int32 × AH) (e : fX3_leastCut p2 p3 h = some b) : Ok yX3_leastCut cX3_leastCut 8 (some .int) 5 [.ref 58, .ref 6, .int p2, .int p3] h (some (.int b.1), b.2) := ok_of (sX3_leastCut p2 p3 h) (by rw [e]; rfl) (by decide +kernel) (Nat.le_of_ble_eq_true rfl)
def fX11_anew_l53b (rec : Int32 → Option (Int32 × AH)) (K102 : Option (Int32 × AH)) (x1 : Int32) (x2 : Int32) (x3 : Int32) (h : AH) (x4 : Int32) : Option (Int32 × AH) :=
  if x4 < (h.1 6 0) then
    if (fX11_isIn x2 x4 h) = 0 then
      rec (x4 + 1)
    else
      if (fX6_has x4 x1 h) = 0 then
        rec (x4 + 1)
      else
        some ((-2 : Int32), h)
  else
    K102
def fX11_anew_l53 (K102 : Option (Int32 × AH)) (x1 : Int32) (x2 : Int32) (x3 : Int32) (h : AH) : Nat → Int32 → Option (Int32 × AH)
  | 0, _ => none
  | n + 1, x4 => fX11_anew_l53b (fX11_anew_l53 K102 x1 x2 x3 h n) K102 x1 x2 x3 h x4
theorem sX11_anew_l53b {rec : Int32 → Option (Int32 × AH)} {K102 : Option (Int32 × AH)} {x1 : Int32} {x2 : Int32} {x3 : Int32} {h : AH} (hR : ∀ (x4 : Int32), Sim RX11 cX11_anew 5 (some .int) 6 (Option.map oI) (rec x4) 53 [(0, .ref 0), (1, .int x1), (2, .int x2), (3, .int x3), (4, .int x4)] [] h) (hK102 : Sim RX11 cX11_anew 5 (some .int) 6 (Option.map oI) (K102) 102 [(0, .ref 0), (1, .int x1), (2, .int x2), (3, .int x3)] [] h) : ∀ (x4 : Int32), Sim RX11 cX11_anew 5 (some .int) 6 (Option.map oI) (fX11_anew_l53b rec K102 x1 x2 x3 h x4) 53 [(0, .ref 0), (1, .int x1), (2, .int x2), (3, .int x3), (4, .int x4)] [] h := by
  intro x4
  unfold fX11_anew_l53b
  refine sim_iload 4 rfl dX11_anew_53 ?_
  refine sim_aload_n 0 rfl dX11_anew_55 ?_
  refine sim_getR flX11_19 rfl rfl dX11_anew_56 ?_
  refine sim_getR flX11_133 rfl rfl dX11_anew_59 ?_
  refine sim_getI flX11_198 rfl rfl dX11_anew_62 ?_
  refine sim_icmp_ge (tgt := 102) dX11_anew_65 (by decide) (fun c6 => ?_) (fun c6 => ?_)
  · refine sim_sub [0, 1, 2, 3] rfl ?_
    exact hK102
  · refine sim_iload_n 2 rfl dX11_anew_68 ?_
    refine sim_iload 4 rfl dX11_anew_69 ?_
    refine sim_cS (As := [.int x2, .int x4]) (st := []) (r := (some (.int (fX11_isIn x2 x4 h)))) (h1 := h) (okX11_isIn x2 x4 h) (fun _ => rfl) mlX11_252 mtX11_isIn rfl (Nat.le_of_ble_eq_true rfl) rfl (Nat.le_of_ble_eq_true rfl) dX11_anew_71 ?_
    refine sim_if_eq (tgt := 96) dX11_anew_74 (by decide) (fun c7 => ?_) (fun c7 => ?_)
    · refine sim_iinc (v := x4 + 1) (L' := [(4, .int (x4 + 1)), (0, .ref 0), (1, .int x1), (2, .int x2), (3, .int x3)]) 4 rfl rfl rfl (by decide) dX11_anew_96 ?_
      refine sim_goto (tgt := 53) dX11_anew_99 (by decide) ?_
      refine sim_sub [1, 2, 3, 4, 0] rfl ?_
      exact hR (x4 + 1)
    · refine sim_aload_n 0 rfl dX11_anew_77 ?_
      refine sim_getR flX11_19 rfl rfl dX11_anew_78 ?_
      refine sim_getR flX11_133 rfl rfl dX11_anew_81 ?_
      refine sim_iload 4 rfl dX11_anew_84 ?_
      refine sim_iload_n 1 rfl dX11_anew_86 ?_
      refine sim_cV (As := [.int x4, .int x1]) (st := []) (r := (some (.int (fX6_has x4 x1 h)))) (h1 := h) (okX6_has x4 x1 h) (fun _ => rfl) mlX11_269 mtX6_has rfl rfl rfl rfl (Nat.le_of_ble_eq_true rfl) rfl (Nat.le_of_ble_eq_true rfl) dX11_anew_87 ?_
      refine sim_if_eq (tgt := 96) dX11_anew_90 (by decide) (fun c8 => ?_) (fun c8 => ?_)
      · refine sim_iinc (v := x4 + 1) (L' := [(4, .int (x4 + 1)), (0, .ref 0), (1, .int x1), (2, .int x2), (3, .int x3)]) 4 rfl rfl rfl (by decide) dX11_anew_96 ?_
        refine sim_goto (tgt := 53) dX11_anew_99 (by decide) ?_
        refine sim_sub [1, 2, 3, 4, 0] rfl ?_
        exact hR (x4 + 1)
      · refine sim_bipush (v := -2) (by decide) dX11_anew_93 ?_
        exact sim_iret rfl rfl dX11_anew_95
theorem sX11_anew_l53 {K102 : Option (Int32 × AH)} {x1 : Int32} {x2 : Int32} {x3 : Int32} {h : AH} (hK102 : Sim RX11 cX11_anew 5 (some .int) 6 (Option.map oI) (K102) 102 [(0, .ref 0), (1, .int x1), (2, .int x2), (3, .int x3)] [] h) : ∀ (n : Nat) (x4 : Int32), Sim RX11 cX11_anew 5 (some .int) 6 (Option.map oI) (fX11_anew_l53 K102 x1 x2 x3 h n x4) 53 [(0, .ref 0), (1, .int x1), (2, .int x2), (3, .int x3), (4, .int x4)] [] h := by
  intro n
  induction n with
  | zero => intro x4; exact sim_none
  | succ n ih => intro x4; exact sX11_anew_l53b ih hK102 x4
def fX11_anew (p1 : Int32) (p2 : Int32) (p3 : Int32) (h : AH) : Option (Int32 × AH) :=
  if (fX6_holds p1 h) = 0 then
    some ((-1 : Int32), h)
  else
    if (p2 &&& ((fX6_allLines h) ^^^ (-1 : Int32))) = 0 then
      if (fX11_isIn p2 p1 h) = 0 then
        if p3 < 0 then
          some ((-1 : Int32), h)
        else
          if (1 : Int32) < p3 then
            some ((-1 : Int32), h)
          else
            fX11_anew_l53 ((fX3_leastCut p1 p2 h).bind (fun b9 =>
              if p3 = 0 then
                some (fJ6_bitCount_0f7a4 b9.1 b9.2, b9.2)
              else
                some (b9.1, b9.2))) p1 p2 p3 h fuel0 (0 : Int32)
      else
        some ((-1 : Int32), h)
    else
      some ((-1 : Int32), h)
theorem sX11_anew (p1 : Int32) (p2 : Int32) (p3 : Int32) (h : AH) : Sim RX11 cX11_anew 5 (some .int) 6 (Option.map oI) (fX11_anew p1 p2 p3 h) 0 [(0, .ref 0), (1, .int p1), (2, .int p2), (3, .int p3)] [] h := by
  unfold fX11_anew
  refine sim_aload_n 0 rfl dX11_anew_0 ?_
  refine sim_getR flX11_19 rfl rfl dX11_anew_1 ?_
  refine sim_getR flX11_133 rfl rfl dX11_anew_4 ?_
  refine sim_iload_n 1 rfl dX11_anew_7 ?_
  refine sim_cV (As := [.int p1]) (st := []) (r := (some (.int (fX6_holds p1 h)))) (h1 := h) (okX6_holds p1 h) (fun _ => rfl) mlX11_155 mtX6_holds rfl rfl rfl rfl (Nat.le_of_ble_eq_true rfl) rfl (Nat.le_of_ble_eq_true rfl) dX11_anew_8 ?_
  refine sim_if_eq (tgt := 48) dX11_anew_11 (by decide) (fun c1 => ?_) (fun c1 => ?_)
  · refine sim_iconst (v := -1) (by decide) dX11_anew_48 ?_
    exact sim_iret rfl rfl dX11_anew_49
  · refine sim_iload_n 2 rfl dX11_anew_14 ?_
    refine sim_aload_n 0 rfl dX11_anew_15 ?_
    refine sim_getR flX11_19 rfl rfl dX11_anew_16 ?_
    refine sim_getR flX11_133 rfl rfl dX11_anew_19 ?_
    refine sim_cV (As := []) (st := [.int p2]) (r := (some (.int (fX6_allLines h)))) (h1 := h) (okX6_allLines h) (fun _ => rfl) mlX11_249 mtX6_allLines rfl rfl rfl rfl (Nat.le_of_ble_eq_true rfl) rfl (Nat.le_of_ble_eq_true rfl) dX11_anew_22 ?_
    refine sim_iconst (v := -1) (by decide) dX11_anew_25 ?_
    refine sim_ixor dX11_anew_26 ?_
    refine sim_iand dX11_anew_27 ?_
    refine sim_if_ne (tgt := 48) dX11_anew_28 (by decide) (fun c2 => ?_) (fun c2 => ?_)
    · refine sim_iconst (v := -1) (by decide) dX11_anew_48 ?_
      exact sim_iret rfl rfl dX11_anew_49
    · refine sim_iload_n 2 rfl dX11_anew_31 ?_
      refine sim_iload_n 1 rfl dX11_anew_32 ?_
      refine sim_cS (As := [.int p2, .int p1]) (st := []) (r := (some (.int (fX11_isIn p2 p1 h)))) (h1 := h) (okX11_isIn p2 p1 h) (fun _ => rfl) mlX11_252 mtX11_isIn rfl (Nat.le_of_ble_eq_true rfl) rfl (Nat.le_of_ble_eq_true rfl) dX11_anew_33 ?_
      refine sim_if_ne (tgt := 48) dX11_anew_36 (by decide) (fun c3 => ?_) (fun c3 => ?_)
      · refine sim_iconst (v := -1) (by decide) dX11_anew_48 ?_
        exact sim_iret rfl rfl dX11_anew_49
      · refine sim_iload_n 3 rfl dX11_anew_39 ?_
        refine sim_if_lt (tgt := 48) dX11_anew_40 (by decide) (fun c4 => ?_) (fun c4 => ?_)
        · refine sim_iconst (v := -1) (by decide) dX11_anew_48 ?_
          exact sim_iret rfl rfl dX11_anew_49
        · refine sim_iload_n 3 rfl dX11_anew_43 ?_
          refine sim_iconst (v := 1) (by decide) dX11_anew_44 ?_
          refine sim_icmp_le (tgt := 50) dX11_anew_45 (by decide) (fun c5 => ?_) (fun c5 => ?_)
          · refine sim_iconst (v := 0) (by decide) dX11_anew_50 ?_
            refine sim_istore (L' := [(4, .int (0 : Int32)), (0, .ref 0), (1, .int p1), (2, .int p2), (3, .int p3)]) rfl (by decide) dX11_anew_51 ?_
            refine sim_sub [1, 2, 3, 4, 0] rfl ?_
            refine sX11_anew_l53 ?_ _ (0 : Int32)
            · refine sim_aload_n 0 rfl dX11_anew_102 ?_
              refine sim_getR flX11_76 rfl rfl dX11_anew_103 ?_
              refine sim_aload_n 0 rfl dX11_anew_106 ?_
              refine sim_getR flX11_19 rfl rfl dX11_anew_107 ?_
              refine sim_getR flX11_133 rfl rfl dX11_anew_110 ?_
              refine sim_iload_n 1 rfl dX11_anew_113 ?_
              refine sim_iload_n 2 rfl dX11_anew_114 ?_
              refine sim_bind (fun b9 e10 => ?_)
              refine sim_cV (As := [.ref 6, .int p1, .int p2]) (st := []) (r := (some (.int b9.1))) (h1 := b9.2) (okX3_leastCut p1 p2 h b9 e10) (fun _ => rfl) mlX11_272 mtX3_leastCut rfl rfl rfl rfl (Nat.le_of_ble_eq_true rfl) rfl (Nat.le_of_ble_eq_true rfl) dX11_anew_115 ?_
              refine sim_istore (L' := [(4, .int b9.1), (0, .ref 0), (1, .int p1), (2, .int p2), (3, .int p3)]) rfl (by decide) dX11_anew_118 ?_
              refine sim_iload_n 4 rfl dX11_anew_120 ?_
              refine sim_if_ne (tgt := 132) dX11_anew_121 (by decide) (fun c11 => ?_) (fun c11 => ?_)
              · refine sim_iload 0 rfl dX11_anew_132 ?_
                exact sim_iret rfl rfl dX11_anew_134
              · refine sim_iload 0 rfl dX11_anew_124 ?_
                refine sim_cS (As := [.int b9.1]) (st := []) (r := (some (.int (fJ6_bitCount_0f7a4 b9.1 b9.2)))) (h1 := b9.2) (okJ6_bitCount_0f7a4 b9.1 b9.2) (fun _ => rfl) mlX11_214 mtJ6_bitCount_0f7a4 rfl (Nat.le_of_ble_eq_true rfl) rfl (Nat.le_of_ble_eq_true rfl) dX11_anew_126 ?_
                refine sim_goto (tgt := 134) dX11_anew_129 (by decide) ?_
                exact sim_iret rfl rfl dX11_anew_134
          · refine sim_iconst (v := -1) (by decide) dX11_anew_48 ?_
            exact sim_iret rfl rfl dX11_anew_49
theorem okX11_anew (p1 : Int32) (p2 : Int32) (p3 : Int32) (h : AH) (b : Int32 × AH) (e : fX11_anew p1 p2 p3 h = some b) : Ok yX11_anew cX11_anew 5 (some .int) 6 [.ref 0, .int p1, .int p2, .int p3] h (some (.int b.1), b.2) := ok_of (sX11_anew p1 p2 p3 h) (by rw [e]; rfl) (by decide +kernel) (Nat.le_of_ble_eq_true rfl)
def fX2_addSet_l2b (rec : Int32 → Option AH) (K29 : Option AH) (x1 : Int32) (h : AH) (x3 : Int32) : Option AH :=
  if x3 < (h.1 62 4) then
    if (fX11_at 65 x3 h) = x1 then
      some h
    else
      rec (x3 + 1)
  else
    K29
def fX2_addSet_l2 (K29 : Option AH) (x1 : Int32) (h : AH) : Nat → Int32 → Option AH
  | 0, _ => none
  | n + 1, x3 => fX2_addSet_l2b (fX2_addSet_l2 K29 x1 h n) K29 x1 h x3
theorem sX2_addSet_l2b {rec : Int32 → Option AH} {K29 : Option AH} {x1 : Int32} {h : AH} (hR : ∀ (x3 : Int32), Sim RX2 cX2_addSet 4 none 2 (Option.map oV) (rec x3) 2 [(0, .ref 62), (1, .int x1), (3, .int x3)] [] h) (hK29 : Sim RX2 cX2_addSet 4 none 2 (Option.map oV) (K29) 29 [(0, .ref 62), (1, .int x1)] [] h) : ∀ (x3 : Int32), Sim RX2 cX2_addSet 4 none 2 (Option.map oV) (fX2_addSet_l2b rec K29 x1 h x3) 2 [(0, .ref 62), (1, .int x1), (3, .int x3)] [] h := by
  intro x3
  unfold fX2_addSet_l2b
  refine sim_iload_n 2 rfl dX2_addSet_2 ?_
  refine sim_aload_n 0 rfl dX2_addSet_3 ?_
  refine sim_getI flX2_24 rfl rfl dX2_addSet_4 ?_
  refine sim_icmp_ge (tgt := 29) dX2_addSet_7 (by decide) (fun c1 => ?_) (fun c1 => ?_)
  · refine sim_sub [0, 1] rfl ?_
    exact hK29
  · refine sim_aload_n 0 rfl dX2_addSet_10 ?_
    refine sim_getR flX2_18 rfl rfl dX2_addSet_11 ?_
    refine sim_iload_n 2 rfl dX2_addSet_14 ?_
    refine sim_cS (As := [.ref 65, .int x3]) (st := []) (r := (some (.int (fX11_at 65 x3 h)))) (h1 := h) (okX11_at 65 rfl x3 h) (fun _ => rfl) mlX2_75 mtX11_at rfl (Nat.le_of_ble_eq_true rfl) rfl (Nat.le_of_ble_eq_true rfl) dX2_addSet_15 ?_
    refine sim_iload_n 1 rfl dX2_addSet_18 ?_
    refine sim_icmp_ne (tgt := 23) dX2_addSet_19 (by decide) (fun c2 => ?_) (fun c2 => ?_)
    · refine sim_iinc (v := x3 + 1) (L' := [(3, .int (x3 + 1)), (0, .ref 62), (1, .int x1)]) 2 rfl rfl rfl (by decide) dX2_addSet_23 ?_
      refine sim_goto (tgt := 2) dX2_addSet_26 (by decide) ?_
      refine sim_sub [1, 2, 0] rfl ?_
      exact hR (x3 + 1)
    · exact sim_vret rfl rfl dX2_addSet_22
theorem sX2_addSet_l2 {K29 : Option AH} {x1 : Int32} {h : AH} (hK29 : Sim RX2 cX2_addSet 4 none 2 (Option.map oV) (K29) 29 [(0, .ref 62), (1, .int x1)] [] h) : ∀ (n : Nat) (x3 : Int32), Sim RX2 cX2_addSet 4 none 2 (Option.map oV) (fX2_addSet_l2 K29 x1 h n x3) 2 [(0, .ref 62), (1, .int x1), (3, .int x3)] [] h := by
  intro n
  induction n with
  | zero => intro x3; exact sim_none
  | succ n ih => intro x3; exact sX2_addSet_l2b ih hK29 x3
def fX2_addSet (p1 : Int32) (p2 : Int32) (h : AH) : Option AH :=
  fX2_addSet_l2 (letT (fX11_put 65 (h.1 62 4) p1 h) (fun g3 =>
    letT (sI g3 62 4 ((g3.1 62 4) + (1 : Int32))) (fun g4 =>
    some g4))) p1 h fuel0 p2
theorem sX2_addSet (p1 : Int32) (p2 : Int32) (h : AH) : Sim RX2 cX2_addSet 4 none 2 (Option.map oV) (fX2_addSet p1 p2 h) 0 [(0, .ref 62), (1, .int p1), (2, .int p2)] [] h := by
  unfold fX2_addSet
  refine sim_iload_n 2 rfl dX2_addSet_0 ?_
  refine sim_istore_n (L' := [(3, .int p2), (0, .ref 62), (1, .int p1), (2, .int p2)]) rfl (by decide) dX2_addSet_1 ?_
  refine sim_sub [1, 2, 0] rfl ?_
  refine sX2_addSet_l2 ?_ _ p2
  · refine sim_aload_n 0 rfl dX2_addSet_29 ?_
    refine sim_getR flX2_18 rfl rfl dX2_addSet_30 ?_
    refine sim_aload_n 0 rfl dX2_addSet_33 ?_
    refine sim_getI flX2_24 rfl rfl dX2_addSet_34 ?_
    refine sim_iload_n 1 rfl dX2_addSet_37 ?_
    refine sim_cS (As := [.ref 65, .int (h.1 62 4), .int p1]) (st := []) (r := none) (h1 := (fX11_put 65 (h.1 62 4) p1 h)) (okX11_put 65 rfl (h.1 62 4) p1 h) (fun _ => rfl) mlX2_52 mtX11_put rfl (Nat.le_of_ble_eq_true rfl) rfl (Nat.le_of_ble_eq_true rfl) dX2_addSet_38 ?_
    refine sim_nmH (fun g3 => ?_)
    refine sim_aload_n 0 rfl dX2_addSet_41 ?_
    refine sim_dup dX2_addSet_42 rfl ?_
    refine sim_getI flX2_24 rfl rfl dX2_addSet_43 ?_
    refine sim_iconst (v := 1) (by decide) dX2_addSet_46 ?_
    refine sim_iadd dX2_addSet_47 ?_
    refine sim_putI fpX2_24 rfl rfl rfl rfl dX2_addSet_48 ?_
    refine sim_nmH (fun g4 => ?_)
    exact sim_vret rfl rfl dX2_addSet_51
theorem okX2_addSet (p1 : Int32) (p2 : Int32) (h : AH) (b : AH) (e : fX2_addSet p1 p2 h = some b) : Ok yX2_addSet cX2_addSet 4 none 2 [.ref 62, .int p1, .int p2] h (none, b) := ok_of (sX2_addSet p1 p2 h) (by rw [e]; rfl) (by decide +kernel) (Nat.le_of_ble_eq_true rfl)
end
