noncomputable section
def fX12_blind_l18b (rec : Int32 → Int32 → AH → Option (Int32 × AH)) (x1 : Int32) (x2 : Int32) (x3 : Int32) (h : AH) : Option (Int32 × AH) :=
  if x3 < (h.1 75 0) then
    (fX12_slips 87 88 x1 x3 h).bind (fun b5 =>
    if x1 < 0 ∨ 20 ≤ x1.toNatClampNeg then none else
    if x3 = (b5.1 87 x1.toNatClampNeg) then
      letT (x2 + (0 : Int32)) (fun v9 =>
      rec v9 (x3 + 1) b5)
    else
      if ((b5.1 75 2) - (1 : Int32)) < 0 ∨ 20 ≤ ((b5.1 75 2) - (1 : Int32)).toNatClampNeg then none else
      if ((b5.1 75 2) - (1 : Int32)) < 0 ∨ 20 ≤ ((b5.1 75 2) - (1 : Int32)).toNatClampNeg then none else
      if (b5.1 88 ((b5.1 75 2) - (1 : Int32)).toNatClampNeg) = (b5.1 87 ((b5.1 75 2) - (1 : Int32)).toNatClampNeg) then
        letT (x2 + (1 : Int32)) (fun v14 =>
        rec v14 (x3 + 1) b5)
      else
        letT (x2 + (0 : Int32)) (fun v13 =>
        rec v13 (x3 + 1) b5))
  else
    some (x2, h)
def fX12_blind_l18 (x1 : Int32) : Nat → Int32 → Int32 → AH → Option (Int32 × AH)
  | 0, _, _, _ => none
  | n + 1, x2, x3, h => fX12_blind_l18b (fX12_blind_l18 x1 n) x1 x2 x3 h
theorem sX12_blind_l18b {rec : Int32 → Int32 → AH → Option (Int32 × AH)} {x1 : Int32} (hR : ∀ (x2 : Int32) (x3 : Int32) (h : AH), Sim RX12 cX12_blind 4 (some .int) 3 (Option.map oI) (rec x2 x3 h) 18 [(0, .ref 75), (1, .int x1), (2, .int x2), (3, .int x3)] [] h) : ∀ (x2 : Int32) (x3 : Int32) (h : AH), Sim RX12 cX12_blind 4 (some .int) 3 (Option.map oI) (fX12_blind_l18b rec x1 x2 x3 h) 18 [(0, .ref 75), (1, .int x1), (2, .int x2), (3, .int x3)] [] h := by
  intro x2 x3 h
  unfold fX12_blind_l18b
  refine sim_iload_n 3 rfl dX12_blind_18 ?_
  refine sim_aload_n 0 rfl dX12_blind_19 ?_
  refine sim_getI flX12_134 rfl rfl dX12_blind_20 ?_
  refine sim_icmp_ge (tgt := 89) dX12_blind_23 (by decide) (fun c4 => ?_) (fun c4 => ?_)
  · refine sim_iload_n 2 rfl dX12_blind_89 ?_
    exact sim_iret rfl rfl dX12_blind_90
  · refine sim_aload_n 0 rfl dX12_blind_26 ?_
    refine sim_aload_n 0 rfl dX12_blind_27 ?_
    refine sim_getR flX12_44 rfl rfl dX12_blind_28 ?_
    refine sim_aload_n 0 rfl dX12_blind_31 ?_
    refine sim_getR flX12_47 rfl rfl dX12_blind_32 ?_
    refine sim_iload_n 1 rfl dX12_blind_35 ?_
    refine sim_iload_n 3 rfl dX12_blind_36 ?_
    refine sim_bind (fun b5 e6 => ?_)
    refine sim_cV (As := [.ref 87, .ref 88, .int x1, .int x3]) (st := []) (r := none) (h1 := b5) (okX12_slips 87 rfl 88 rfl x1 x3 h b5 e6) (fun _ => rfl) mlX12_228 mtX12_slips rfl rfl rfl rfl (Nat.le_of_ble_eq_true rfl) rfl (Nat.le_of_ble_eq_true rfl) dX12_blind_37 ?_
    refine sim_iload_n 2 rfl dX12_blind_40 ?_
    refine sim_iload_n 3 rfl dX12_blind_41 ?_
    refine sim_aload_n 0 rfl dX12_blind_42 ?_
    refine sim_getR flX12_44 rfl rfl dX12_blind_43 ?_
    refine sim_iload_n 1 rfl dX12_blind_46 ?_
    refine sim_nguard (fun c7 => ?_)
    refine sim_iald rfl c7 dX12_blind_47 ?_
    refine sim_icmp_eq (tgt := 80) dX12_blind_48 (by decide) (fun c8 => ?_) (fun c8 => ?_)
    · refine sim_iconst (v := 0) (by decide) dX12_blind_80 ?_
      refine sim_iadd dX12_blind_81 ?_
      refine sim_nmI (fun v9 => ?_)
      refine sim_istore_n (L' := [(2, .int v9), (0, .ref 75), (1, .int x1), (3, .int x3)]) rfl (by decide) dX12_blind_82 ?_
      refine sim_iinc (v := x3 + 1) (L' := [(3, .int (x3 + 1)), (2, .int v9), (0, .ref 75), (1, .int x1)]) 3 rfl rfl rfl (by decide) dX12_blind_83 ?_
      refine sim_goto (tgt := 18) dX12_blind_86 (by decide) ?_
      refine sim_sub [2, 3, 1, 0] rfl ?_
      exact hR v9 (x3 + 1) b5
    · refine sim_aload_n 0 rfl dX12_blind_51 ?_
      refine sim_getR flX12_47 rfl rfl dX12_blind_52 ?_
      refine sim_aload_n 0 rfl dX12_blind_55 ?_
      refine sim_getI flX12_145 rfl rfl dX12_blind_56 ?_
      refine sim_iconst (v := 1) (by decide) dX12_blind_59 ?_
      refine sim_isub dX12_blind_60 ?_
      refine sim_nguard (fun c10 => ?_)
      refine sim_iald rfl c10 dX12_blind_61 ?_
      refine sim_aload_n 0 rfl dX12_blind_62 ?_
      refine sim_getR flX12_44 rfl rfl dX12_blind_63 ?_
      refine sim_aload_n 0 rfl dX12_blind_66 ?_
      refine sim_getI flX12_145 rfl rfl dX12_blind_67 ?_
      refine sim_iconst (v := 1) (by decide) dX12_blind_70 ?_
      refine sim_isub dX12_blind_71 ?_
      refine sim_nguard (fun c11 => ?_)
      refine sim_iald rfl c11 dX12_blind_72 ?_
      refine sim_icmp_ne (tgt := 80) dX12_blind_73 (by decide) (fun c12 => ?_) (fun c12 => ?_)
      · refine sim_iconst (v := 0) (by decide) dX12_blind_80 ?_
        refine sim_iadd dX12_blind_81 ?_
        refine sim_nmI (fun v13 => ?_)
        refine sim_istore_n (L' := [(2, .int v13), (0, .ref 75), (1, .int x1), (3, .int x3)]) rfl (by decide) dX12_blind_82 ?_
        refine sim_iinc (v := x3 + 1) (L' := [(3, .int (x3 + 1)), (2, .int v13), (0, .ref 75), (1, .int x1)]) 3 rfl rfl rfl (by decide) dX12_blind_83 ?_
        refine sim_goto (tgt := 18) dX12_blind_86 (by decide) ?_
        refine sim_sub [2, 3, 1, 0] rfl ?_
        exact hR v13 (x3 + 1) b5
      · refine sim_iconst (v := 1) (by decide) dX12_blind_76 ?_
        refine sim_goto (tgt := 81) dX12_blind_77 (by decide) ?_
        refine sim_iadd dX12_blind_81 ?_
        refine sim_nmI (fun v14 => ?_)
        refine sim_istore_n (L' := [(2, .int v14), (0, .ref 75), (1, .int x1), (3, .int x3)]) rfl (by decide) dX12_blind_82 ?_
        refine sim_iinc (v := x3 + 1) (L' := [(3, .int (x3 + 1)), (2, .int v14), (0, .ref 75), (1, .int x1)]) 3 rfl rfl rfl (by decide) dX12_blind_83 ?_
        refine sim_goto (tgt := 18) dX12_blind_86 (by decide) ?_
        refine sim_sub [2, 3, 1, 0] rfl ?_
        exact hR v14 (x3 + 1) b5
theorem sX12_blind_l18 {x1 : Int32} : ∀ (n : Nat) (x2 : Int32) (x3 : Int32) (h : AH), Sim RX12 cX12_blind 4 (some .int) 3 (Option.map oI) (fX12_blind_l18 x1 n x2 x3 h) 18 [(0, .ref 75), (1, .int x1), (2, .int x2), (3, .int x3)] [] h := by
  intro n
  induction n with
  | zero => intro x2 x3 h; exact sim_none
  | succ n ih => intro x2 x3 h; exact sX12_blind_l18b ih x2 x3 h
def fX12_blind (p1 : Int32) (h : AH) : Option (Int32 × AH) :=
  if (fX12_isLine p1 h) = 0 then
    some ((-1 : Int32), h)
  else
    (fX12_laysTruth h).bind (fun b2 =>
    fX12_blind_l18 p1 fuel0 (0 : Int32) (0 : Int32) b2)
theorem sX12_blind (p1 : Int32) (h : AH) : Sim RX12 cX12_blind 4 (some .int) 3 (Option.map oI) (fX12_blind p1 h) 0 [(0, .ref 75), (1, .int p1)] [] h := by
  unfold fX12_blind
  refine sim_aload_n 0 rfl dX12_blind_0 ?_
  refine sim_iload_n 1 rfl dX12_blind_1 ?_
  refine sim_cV (As := [.int p1]) (st := []) (r := (some (.int (fX12_isLine p1 h)))) (h1 := h) (okX12_isLine p1 h) (fun _ => rfl) mlX12_209 mtX12_isLine rfl rfl rfl rfl (Nat.le_of_ble_eq_true rfl) rfl (Nat.le_of_ble_eq_true rfl) dX12_blind_2 ?_
  refine sim_if_ne (tgt := 10) dX12_blind_5 (by decide) (fun c1 => ?_) (fun c1 => ?_)
  · refine sim_aload_n 0 rfl dX12_blind_10 ?_
    refine sim_bind (fun b2 e3 => ?_)
    refine sim_cV (As := []) (st := []) (r := none) (h1 := b2) (okX12_laysTruth h b2 e3) (fun _ => rfl) mlX12_212 mtX12_laysTruth rfl rfl rfl rfl (Nat.le_of_ble_eq_true rfl) rfl (Nat.le_of_ble_eq_true rfl) dX12_blind_11 ?_
    refine sim_iconst (v := 0) (by decide) dX12_blind_14 ?_
    refine sim_istore_n (L' := [(2, .int (0 : Int32)), (0, .ref 75), (1, .int p1)]) rfl (by decide) dX12_blind_15 ?_
    refine sim_iconst (v := 0) (by decide) dX12_blind_16 ?_
    refine sim_istore_n (L' := [(3, .int (0 : Int32)), (2, .int (0 : Int32)), (0, .ref 75), (1, .int p1)]) rfl (by decide) dX12_blind_17 ?_
    refine sim_sub [2, 3, 1, 0] rfl ?_
    refine sX12_blind_l18 _ (0 : Int32) (0 : Int32) b2
  · refine sim_iconst (v := -1) (by decide) dX12_blind_8 ?_
    exact sim_iret rfl rfl dX12_blind_9
theorem okX12_blind (p1 : Int32) (h : AH) (b : Int32 × AH) (e : fX12_blind p1 h = some b) : Ok yX12_blind cX12_blind 4 (some .int) 3 [.ref 75, .int p1] h (some (.int b.1), b.2) := ok_of (sX12_blind p1 h) (by rw [e]; rfl) (by decide +kernel) (Nat.le_of_ble_eq_true rfl)
def fX12_laysCancel_l55b (rec : Int32 → AH → Option AH) (K165 : AH → Option AH) (x1 : Int32) (x2 : Int32) (x3 : Int32) (x4 : Int32) (h : AH) : Option AH :=
  if x4 < (h.1 75 0) then
    if x3 < 0 ∨ 20 ≤ x3.toNatClampNeg then none else
    if x4 = (h.1 88 x3.toNatClampNeg) then
      rec (x4 + 1) h
    else
      (fX12_slips 88 89 x3 x4 h).bind (fun b11 =>
      if ((b11.1 75 2) - (1 : Int32)) < 0 ∨ 20 ≤ ((b11.1 75 2) - (1 : Int32)).toNatClampNeg then none else
      if ((b11.1 75 2) - (1 : Int32)) < 0 ∨ 20 ≤ ((b11.1 75 2) - (1 : Int32)).toNatClampNeg then none else
      if (b11.1 89 ((b11.1 75 2) - (1 : Int32)).toNatClampNeg) = (b11.1 87 ((b11.1 75 2) - (1 : Int32)).toNatClampNeg) then
        if (b11.1 75 43) = 0 then
          letT (sI b11 75 44 x1) (fun g18 =>
          letT (sI g18 75 45 x2) (fun g19 =>
          letT (sI g19 75 46 x3) (fun g20 =>
          letT (sI g20 75 47 x4) (fun g21 =>
          letT (sI g21 75 43 ((g21.1 75 43) + (1 : Int32))) (fun g22 =>
          rec (x4 + 1) g22)))))
        else
          letT (sI b11 75 43 ((b11.1 75 43) + (1 : Int32))) (fun g17 =>
          rec (x4 + 1) g17)
      else
        rec (x4 + 1) b11)
  else
    K165 h
def fX12_laysCancel_l55 (K165 : AH → Option AH) (x1 : Int32) (x2 : Int32) (x3 : Int32) : Nat → Int32 → AH → Option AH
  | 0, _, _ => none
  | n + 1, x4, h => fX12_laysCancel_l55b (fX12_laysCancel_l55 K165 x1 x2 x3 n) K165 x1 x2 x3 x4 h
theorem sX12_laysCancel_l55b {rec : Int32 → AH → Option AH} {K165 : AH → Option AH} {x1 : Int32} {x2 : Int32} {x3 : Int32} (hR : ∀ (x4 : Int32) (h : AH), Sim RX12 cX12_laysCancel 5 none 3 (Option.map oV) (rec x4 h) 55 [(0, .ref 75), (1, .int x1), (2, .int x2), (3, .int x3), (4, .int x4)] [] h) (hK165 : ∀ (g : AH), Sim RX12 cX12_laysCancel 5 none 3 (Option.map oV) (K165 g) 165 [(0, .ref 75), (1, .int x1), (2, .int x2), (3, .int x3)] [] g) : ∀ (x4 : Int32) (h : AH), Sim RX12 cX12_laysCancel 5 none 3 (Option.map oV) (fX12_laysCancel_l55b rec K165 x1 x2 x3 x4 h) 55 [(0, .ref 75), (1, .int x1), (2, .int x2), (3, .int x3), (4, .int x4)] [] h := by
  intro x4 h
  unfold fX12_laysCancel_l55b
  refine sim_iload 4 rfl dX12_laysCancel_55 ?_
  refine sim_aload_n 0 rfl dX12_laysCancel_57 ?_
  refine sim_getI flX12_134 rfl rfl dX12_laysCancel_58 ?_
  refine sim_icmp_ge (tgt := 165) dX12_laysCancel_61 (by decide) (fun c8 => ?_) (fun c8 => ?_)
  · refine sim_sub [0, 1, 2, 3] rfl ?_
    exact hK165 h
  · refine sim_iload 4 rfl dX12_laysCancel_64 ?_
    refine sim_aload_n 0 rfl dX12_laysCancel_66 ?_
    refine sim_getR flX12_47 rfl rfl dX12_laysCancel_67 ?_
    refine sim_iload_n 3 rfl dX12_laysCancel_70 ?_
    refine sim_nguard (fun c9 => ?_)
    refine sim_iald rfl c9 dX12_laysCancel_71 ?_
    refine sim_icmp_ne (tgt := 78) dX12_laysCancel_72 (by decide) (fun c10 => ?_) (fun c10 => ?_)
    · refine sim_aload_n 0 rfl dX12_laysCancel_78 ?_
      refine sim_aload_n 0 rfl dX12_laysCancel_79 ?_
      refine sim_getR flX12_47 rfl rfl dX12_laysCancel_80 ?_
      refine sim_aload_n 0 rfl dX12_laysCancel_83 ?_
      refine sim_getR flX12_50 rfl rfl dX12_laysCancel_84 ?_
      refine sim_iload_n 3 rfl dX12_laysCancel_87 ?_
      refine sim_iload 4 rfl dX12_laysCancel_88 ?_
      refine sim_bind (fun b11 e12 => ?_)
      refine sim_cV (As := [.ref 88, .ref 89, .int x3, .int x4]) (st := []) (r := none) (h1 := b11) (okX12_slips 88 rfl 89 rfl x3 x4 h b11 e12) (fun _ => rfl) mlX12_228 mtX12_slips rfl rfl rfl rfl (Nat.le_of_ble_eq_true rfl) rfl (Nat.le_of_ble_eq_true rfl) dX12_laysCancel_90 ?_
      refine sim_aload_n 0 rfl dX12_laysCancel_93 ?_
      refine sim_getR flX12_50 rfl rfl dX12_laysCancel_94 ?_
      refine sim_aload_n 0 rfl dX12_laysCancel_97 ?_
      refine sim_getI flX12_145 rfl rfl dX12_laysCancel_98 ?_
      refine sim_iconst (v := 1) (by decide) dX12_laysCancel_101 ?_
      refine sim_isub dX12_laysCancel_102 ?_
      refine sim_nguard (fun c13 => ?_)
      refine sim_iald rfl c13 dX12_laysCancel_103 ?_
      refine sim_aload_n 0 rfl dX12_laysCancel_104 ?_
      refine sim_getR flX12_44 rfl rfl dX12_laysCancel_105 ?_
      refine sim_aload_n 0 rfl dX12_laysCancel_108 ?_
      refine sim_getI flX12_145 rfl rfl dX12_laysCancel_109 ?_
      refine sim_iconst (v := 1) (by decide) dX12_laysCancel_112 ?_
      refine sim_isub dX12_laysCancel_113 ?_
      refine sim_nguard (fun c14 => ?_)
      refine sim_iald rfl c14 dX12_laysCancel_114 ?_
      refine sim_icmp_eq (tgt := 121) dX12_laysCancel_115 (by decide) (fun c15 => ?_) (fun c15 => ?_)
      · refine sim_aload_n 0 rfl dX12_laysCancel_121 ?_
        refine sim_getI flX12_346 rfl rfl dX12_laysCancel_122 ?_
        refine sim_if_ne (tgt := 149) dX12_laysCancel_125 (by decide) (fun c16 => ?_) (fun c16 => ?_)
        · refine sim_aload_n 0 rfl dX12_laysCancel_149 ?_
          refine sim_aload_n 0 rfl dX12_laysCancel_150 ?_
          refine sim_getI flX12_346 rfl rfl dX12_laysCancel_151 ?_
          refine sim_iconst (v := 1) (by decide) dX12_laysCancel_154 ?_
          refine sim_iadd dX12_laysCancel_155 ?_
          refine sim_putI fpX12_346 rfl rfl rfl rfl dX12_laysCancel_156 ?_
          refine sim_nmH (fun g17 => ?_)
          refine sim_iinc (v := x4 + 1) (L' := [(4, .int (x4 + 1)), (0, .ref 75), (1, .int x1), (2, .int x2), (3, .int x3)]) 4 rfl rfl rfl (by decide) dX12_laysCancel_159 ?_
          refine sim_goto (tgt := 55) dX12_laysCancel_162 (by decide) ?_
          refine sim_sub [1, 2, 3, 4, 0] rfl ?_
          exact hR (x4 + 1) g17
        · refine sim_aload_n 0 rfl dX12_laysCancel_128 ?_
          refine sim_iload_n 1 rfl dX12_laysCancel_129 ?_
          refine sim_putI fpX12_349 rfl rfl rfl rfl dX12_laysCancel_130 ?_
          refine sim_nmH (fun g18 => ?_)
          refine sim_aload_n 0 rfl dX12_laysCancel_133 ?_
          refine sim_iload_n 2 rfl dX12_laysCancel_134 ?_
          refine sim_putI fpX12_352 rfl rfl rfl rfl dX12_laysCancel_135 ?_
          refine sim_nmH (fun g19 => ?_)
          refine sim_aload_n 0 rfl dX12_laysCancel_138 ?_
          refine sim_iload_n 3 rfl dX12_laysCancel_139 ?_
          refine sim_putI fpX12_355 rfl rfl rfl rfl dX12_laysCancel_140 ?_
          refine sim_nmH (fun g20 => ?_)
          refine sim_aload_n 0 rfl dX12_laysCancel_143 ?_
          refine sim_iload 4 rfl dX12_laysCancel_144 ?_
          refine sim_putI fpX12_358 rfl rfl rfl rfl dX12_laysCancel_146 ?_
          refine sim_nmH (fun g21 => ?_)
          refine sim_aload_n 0 rfl dX12_laysCancel_149 ?_
          refine sim_aload_n 0 rfl dX12_laysCancel_150 ?_
          refine sim_getI flX12_346 rfl rfl dX12_laysCancel_151 ?_
          refine sim_iconst (v := 1) (by decide) dX12_laysCancel_154 ?_
          refine sim_iadd dX12_laysCancel_155 ?_
          refine sim_putI fpX12_346 rfl rfl rfl rfl dX12_laysCancel_156 ?_
          refine sim_nmH (fun g22 => ?_)
          refine sim_iinc (v := x4 + 1) (L' := [(4, .int (x4 + 1)), (0, .ref 75), (1, .int x1), (2, .int x2), (3, .int x3)]) 4 rfl rfl rfl (by decide) dX12_laysCancel_159 ?_
          refine sim_goto (tgt := 55) dX12_laysCancel_162 (by decide) ?_
          refine sim_sub [1, 2, 3, 4, 0] rfl ?_
          exact hR (x4 + 1) g22
      · refine sim_goto (tgt := 159) dX12_laysCancel_118 (by decide) ?_
        refine sim_iinc (v := x4 + 1) (L' := [(4, .int (x4 + 1)), (0, .ref 75), (1, .int x1), (2, .int x2), (3, .int x3)]) 4 rfl rfl rfl (by decide) dX12_laysCancel_159 ?_
        refine sim_goto (tgt := 55) dX12_laysCancel_162 (by decide) ?_
        refine sim_sub [1, 2, 3, 4, 0] rfl ?_
        exact hR (x4 + 1) b11
    · refine sim_goto (tgt := 159) dX12_laysCancel_75 (by decide) ?_
      refine sim_iinc (v := x4 + 1) (L' := [(4, .int (x4 + 1)), (0, .ref 75), (1, .int x1), (2, .int x2), (3, .int x3)]) 4 rfl rfl rfl (by decide) dX12_laysCancel_159 ?_
      refine sim_goto (tgt := 55) dX12_laysCancel_162 (by decide) ?_
      refine sim_sub [1, 2, 3, 4, 0] rfl ?_
      exact hR (x4 + 1) h
theorem sX12_laysCancel_l55 {K165 : AH → Option AH} {x1 : Int32} {x2 : Int32} {x3 : Int32} (hK165 : ∀ (g : AH), Sim RX12 cX12_laysCancel 5 none 3 (Option.map oV) (K165 g) 165 [(0, .ref 75), (1, .int x1), (2, .int x2), (3, .int x3)] [] g) : ∀ (n : Nat) (x4 : Int32) (h : AH), Sim RX12 cX12_laysCancel 5 none 3 (Option.map oV) (fX12_laysCancel_l55 K165 x1 x2 x3 n x4 h) 55 [(0, .ref 75), (1, .int x1), (2, .int x2), (3, .int x3), (4, .int x4)] [] h := by
  intro n
  induction n with
  | zero => intro x4 h; exact sim_none
  | succ n ih => intro x4 h; exact sX12_laysCancel_l55b ih hK165 x4 h
def fX12_laysCancel_l44b (rec : Int32 → AH → Option AH) (x1 : Int32) (x2 : Int32) (x3 : Int32) (h : AH) : Option AH :=
  if x3 < (h.1 75 2) then
    fX12_laysCancel_l55 (fun (g23 : AH) =>
      rec (x3 + 1) g23) x1 x2 x3 fuel0 (0 : Int32) h
  else
    some h
def fX12_laysCancel_l44 (x1 : Int32) (x2 : Int32) : Nat → Int32 → AH → Option AH
  | 0, _, _ => none
  | n + 1, x3, h => fX12_laysCancel_l44b (fX12_laysCancel_l44 x1 x2 n) x1 x2 x3 h
theorem sX12_laysCancel_l44b {rec : Int32 → AH → Option AH} {x1 : Int32} {x2 : Int32} (hR : ∀ (x3 : Int32) (h : AH), Sim RX12 cX12_laysCancel 5 none 3 (Option.map oV) (rec x3 h) 44 [(0, .ref 75), (1, .int x1), (2, .int x2), (3, .int x3)] [] h) : ∀ (x3 : Int32) (h : AH), Sim RX12 cX12_laysCancel 5 none 3 (Option.map oV) (fX12_laysCancel_l44b rec x1 x2 x3 h) 44 [(0, .ref 75), (1, .int x1), (2, .int x2), (3, .int x3)] [] h := by
  intro x3 h
  unfold fX12_laysCancel_l44b
  refine sim_iload_n 3 rfl dX12_laysCancel_44 ?_
  refine sim_aload_n 0 rfl dX12_laysCancel_45 ?_
  refine sim_getI flX12_145 rfl rfl dX12_laysCancel_46 ?_
  refine sim_icmp_ge (tgt := 171) dX12_laysCancel_49 (by decide) (fun c7 => ?_) (fun c7 => ?_)
  · exact sim_vret rfl rfl dX12_laysCancel_171
  · refine sim_iconst (v := 0) (by decide) dX12_laysCancel_52 ?_
    refine sim_istore (L' := [(4, .int (0 : Int32)), (0, .ref 75), (1, .int x1), (2, .int x2), (3, .int x3)]) rfl (by decide) dX12_laysCancel_53 ?_
    refine sim_sub [1, 2, 3, 4, 0] rfl ?_
    refine sX12_laysCancel_l55 (fun g23 => ?_) _ (0 : Int32) h
    · refine sim_iinc (v := x3 + 1) (L' := [(3, .int (x3 + 1)), (0, .ref 75), (1, .int x1), (2, .int x2)]) 3 rfl rfl rfl (by decide) dX12_laysCancel_165 ?_
      refine sim_goto (tgt := 44) dX12_laysCancel_168 (by decide) ?_
      refine sim_sub [1, 2, 3, 0] rfl ?_
      exact hR (x3 + 1) g23
theorem sX12_laysCancel_l44 {x1 : Int32} {x2 : Int32} : ∀ (n : Nat) (x3 : Int32) (h : AH), Sim RX12 cX12_laysCancel 5 none 3 (Option.map oV) (fX12_laysCancel_l44 x1 x2 n x3 h) 44 [(0, .ref 75), (1, .int x1), (2, .int x2), (3, .int x3)] [] h := by
  intro n
  induction n with
  | zero => intro x3 h; exact sim_none
  | succ n ih => intro x3 h; exact sX12_laysCancel_l44b ih x3 h
def fX12_laysCancel (p1 : Int32) (p2 : Int32) (h : AH) : Option AH :=
  (fX12_slips 87 88 p1 p2 h).bind (fun b1 =>
  if ((b1.1 75 2) - (1 : Int32)) < 0 ∨ 20 ≤ ((b1.1 75 2) - (1 : Int32)).toNatClampNeg then none else
  if ((b1.1 75 2) - (1 : Int32)) < 0 ∨ 20 ≤ ((b1.1 75 2) - (1 : Int32)).toNatClampNeg then none else
  if (b1.1 88 ((b1.1 75 2) - (1 : Int32)).toNatClampNeg) = (b1.1 87 ((b1.1 75 2) - (1 : Int32)).toNatClampNeg) then
    some b1
  else
    letT (p1 + (1 : Int32)) (fun v6 =>
    fX12_laysCancel_l44 p1 p2 fuel0 v6 b1))
theorem sX12_laysCancel (p1 : Int32) (p2 : Int32) (h : AH) : Sim RX12 cX12_laysCancel 5 none 3 (Option.map oV) (fX12_laysCancel p1 p2 h) 0 [(0, .ref 75), (1, .int p1), (2, .int p2)] [] h := by
  unfold fX12_laysCancel
  refine sim_aload_n 0 rfl dX12_laysCancel_0 ?_
  refine sim_aload_n 0 rfl dX12_laysCancel_1 ?_
  refine sim_getR flX12_44 rfl rfl dX12_laysCancel_2 ?_
  refine sim_aload_n 0 rfl dX12_laysCancel_5 ?_
  refine sim_getR flX12_47 rfl rfl dX12_laysCancel_6 ?_
  refine sim_iload_n 1 rfl dX12_laysCancel_9 ?_
  refine sim_iload_n 2 rfl dX12_laysCancel_10 ?_
  refine sim_bind (fun b1 e2 => ?_)
  refine sim_cV (As := [.ref 87, .ref 88, .int p1, .int p2]) (st := []) (r := none) (h1 := b1) (okX12_slips 87 rfl 88 rfl p1 p2 h b1 e2) (fun _ => rfl) mlX12_228 mtX12_slips rfl rfl rfl rfl (Nat.le_of_ble_eq_true rfl) rfl (Nat.le_of_ble_eq_true rfl) dX12_laysCancel_11 ?_
  refine sim_aload_n 0 rfl dX12_laysCancel_14 ?_
  refine sim_getR flX12_47 rfl rfl dX12_laysCancel_15 ?_
  refine sim_aload_n 0 rfl dX12_laysCancel_18 ?_
  refine sim_getI flX12_145 rfl rfl dX12_laysCancel_19 ?_
  refine sim_iconst (v := 1) (by decide) dX12_laysCancel_22 ?_
  refine sim_isub dX12_laysCancel_23 ?_
  refine sim_nguard (fun c3 => ?_)
  refine sim_iald rfl c3 dX12_laysCancel_24 ?_
  refine sim_aload_n 0 rfl dX12_laysCancel_25 ?_
  refine sim_getR flX12_44 rfl rfl dX12_laysCancel_26 ?_
  refine sim_aload_n 0 rfl dX12_laysCancel_29 ?_
  refine sim_getI flX12_145 rfl rfl dX12_laysCancel_30 ?_
  refine sim_iconst (v := 1) (by decide) dX12_laysCancel_33 ?_
  refine sim_isub dX12_laysCancel_34 ?_
  refine sim_nguard (fun c4 => ?_)
  refine sim_iald rfl c4 dX12_laysCancel_35 ?_
  refine sim_icmp_ne (tgt := 40) dX12_laysCancel_36 (by decide) (fun c5 => ?_) (fun c5 => ?_)
  · refine sim_iload_n 1 rfl dX12_laysCancel_40 ?_
    refine sim_iconst (v := 1) (by decide) dX12_laysCancel_41 ?_
    refine sim_iadd dX12_laysCancel_42 ?_
    refine sim_nmI (fun v6 => ?_)
    refine sim_istore_n (L' := [(3, .int v6), (0, .ref 75), (1, .int p1), (2, .int p2)]) rfl (by decide) dX12_laysCancel_43 ?_
    refine sim_sub [1, 2, 3, 0] rfl ?_
    refine sX12_laysCancel_l44 _ v6 b1
  · exact sim_vret rfl rfl dX12_laysCancel_39
theorem okX12_laysCancel (p1 : Int32) (p2 : Int32) (h : AH) (b : AH) (e : fX12_laysCancel p1 p2 h = some b) : Ok yX12_laysCancel cX12_laysCancel 5 none 3 [.ref 75, .int p1, .int p2] h (none, b) := ok_of (sX12_laysCancel p1 p2 h) (by rw [e]; rfl) (by decide +kernel) (Nat.le_of_ble_eq_true rfl)
def fX12_cancel_l48b (rec : Int32 → AH → Option (Int32 × AH)) (K78 : AH → Option (Int32 × AH)) (x1 : Int32) (x2 : Int32) (x3 : Int32) (h : AH) : Option (Int32 × AH) :=
  if x3 < (h.1 75 0) then
    if x2 < 0 ∨ 20 ≤ x2.toNatClampNeg then none else
    if x3 = (h.1 87 x2.toNatClampNeg) then
      rec (x3 + 1) h
    else
      (fX12_laysCancel x2 x3 h).bind (fun b11 =>
      rec (x3 + 1) b11)
  else
    K78 h
def fX12_cancel_l48 (K78 : AH → Option (Int32 × AH)) (x1 : Int32) (x2 : Int32) : Nat → Int32 → AH → Option (Int32 × AH)
  | 0, _, _ => none
  | n + 1, x3, h => fX12_cancel_l48b (fX12_cancel_l48 K78 x1 x2 n) K78 x1 x2 x3 h
theorem sX12_cancel_l48b {rec : Int32 → AH → Option (Int32 × AH)} {K78 : AH → Option (Int32 × AH)} {x1 : Int32} {x2 : Int32} (hR : ∀ (x3 : Int32) (h : AH), Sim RX12 cX12_cancel 4 (some .int) 4 (Option.map oI) (rec x3 h) 48 [(0, .ref 75), (1, .int x1), (2, .int x2), (3, .int x3)] [] h) (hK78 : ∀ (g : AH), Sim RX12 cX12_cancel 4 (some .int) 4 (Option.map oI) (K78 g) 78 [(0, .ref 75), (1, .int x1), (2, .int x2)] [] g) : ∀ (x3 : Int32) (h : AH), Sim RX12 cX12_cancel 4 (some .int) 4 (Option.map oI) (fX12_cancel_l48b rec K78 x1 x2 x3 h) 48 [(0, .ref 75), (1, .int x1), (2, .int x2), (3, .int x3)] [] h := by
  intro x3 h
  unfold fX12_cancel_l48b
  refine sim_iload_n 3 rfl dX12_cancel_48 ?_
  refine sim_aload_n 0 rfl dX12_cancel_49 ?_
  refine sim_getI flX12_134 rfl rfl dX12_cancel_50 ?_
  refine sim_icmp_ge (tgt := 78) dX12_cancel_53 (by decide) (fun c8 => ?_) (fun c8 => ?_)
  · refine sim_sub [0, 1, 2] rfl ?_
    exact hK78 h
  · refine sim_iload_n 3 rfl dX12_cancel_56 ?_
    refine sim_aload_n 0 rfl dX12_cancel_57 ?_
    refine sim_getR flX12_44 rfl rfl dX12_cancel_58 ?_
    refine sim_iload_n 2 rfl dX12_cancel_61 ?_
    refine sim_nguard (fun c9 => ?_)
    refine sim_iald rfl c9 dX12_cancel_62 ?_
    refine sim_icmp_eq (tgt := 72) dX12_cancel_63 (by decide) (fun c10 => ?_) (fun c10 => ?_)
    · refine sim_iinc (v := x3 + 1) (L' := [(3, .int (x3 + 1)), (0, .ref 75), (1, .int x1), (2, .int x2)]) 3 rfl rfl rfl (by decide) dX12_cancel_72 ?_
      refine sim_goto (tgt := 48) dX12_cancel_75 (by decide) ?_
      refine sim_sub [1, 2, 3, 0] rfl ?_
      exact hR (x3 + 1) h
    · refine sim_aload_n 0 rfl dX12_cancel_66 ?_
      refine sim_iload_n 2 rfl dX12_cancel_67 ?_
      refine sim_iload_n 3 rfl dX12_cancel_68 ?_
      refine sim_bind (fun b11 e12 => ?_)
      refine sim_cV (As := [.int x2, .int x3]) (st := []) (r := none) (h1 := b11) (okX12_laysCancel x2 x3 h b11 e12) (fun _ => rfl) mlX12_361 mtX12_laysCancel rfl rfl rfl rfl (Nat.le_of_ble_eq_true rfl) rfl (Nat.le_of_ble_eq_true rfl) dX12_cancel_69 ?_
      refine sim_iinc (v := x3 + 1) (L' := [(3, .int (x3 + 1)), (0, .ref 75), (1, .int x1), (2, .int x2)]) 3 rfl rfl rfl (by decide) dX12_cancel_72 ?_
      refine sim_goto (tgt := 48) dX12_cancel_75 (by decide) ?_
      refine sim_sub [1, 2, 3, 0] rfl ?_
      exact hR (x3 + 1) b11
theorem sX12_cancel_l48 {K78 : AH → Option (Int32 × AH)} {x1 : Int32} {x2 : Int32} (hK78 : ∀ (g : AH), Sim RX12 cX12_cancel 4 (some .int) 4 (Option.map oI) (K78 g) 78 [(0, .ref 75), (1, .int x1), (2, .int x2)] [] g) : ∀ (n : Nat) (x3 : Int32) (h : AH), Sim RX12 cX12_cancel 4 (some .int) 4 (Option.map oI) (fX12_cancel_l48 K78 x1 x2 n x3 h) 48 [(0, .ref 75), (1, .int x1), (2, .int x2), (3, .int x3)] [] h := by
  intro n
  induction n with
  | zero => intro x3 h; exact sim_none
  | succ n ih => intro x3 h; exact sX12_cancel_l48b ih hK78 x3 h
def fX12_cancel_l38b (rec : Int32 → AH → Option (Int32 × AH)) (K84 : AH → Option (Int32 × AH)) (x1 : Int32) (x2 : Int32) (h : AH) : Option (Int32 × AH) :=
  if x2 < (h.1 75 2) then
    fX12_cancel_l48 (fun (g13 : AH) =>
      rec (x2 + 1) g13) x1 x2 fuel0 (0 : Int32) h
  else
    K84 h
def fX12_cancel_l38 (K84 : AH → Option (Int32 × AH)) (x1 : Int32) : Nat → Int32 → AH → Option (Int32 × AH)
  | 0, _, _ => none
  | n + 1, x2, h => fX12_cancel_l38b (fX12_cancel_l38 K84 x1 n) K84 x1 x2 h
theorem sX12_cancel_l38b {rec : Int32 → AH → Option (Int32 × AH)} {K84 : AH → Option (Int32 × AH)} {x1 : Int32} (hR : ∀ (x2 : Int32) (h : AH), Sim RX12 cX12_cancel 4 (some .int) 4 (Option.map oI) (rec x2 h) 38 [(0, .ref 75), (1, .int x1), (2, .int x2)] [] h) (hK84 : ∀ (g : AH), Sim RX12 cX12_cancel 4 (some .int) 4 (Option.map oI) (K84 g) 84 [(0, .ref 75), (1, .int x1)] [] g) : ∀ (x2 : Int32) (h : AH), Sim RX12 cX12_cancel 4 (some .int) 4 (Option.map oI) (fX12_cancel_l38b rec K84 x1 x2 h) 38 [(0, .ref 75), (1, .int x1), (2, .int x2)] [] h := by
  intro x2 h
  unfold fX12_cancel_l38b
  refine sim_iload_n 2 rfl dX12_cancel_38 ?_
  refine sim_aload_n 0 rfl dX12_cancel_39 ?_
  refine sim_getI flX12_145 rfl rfl dX12_cancel_40 ?_
  refine sim_icmp_ge (tgt := 84) dX12_cancel_43 (by decide) (fun c7 => ?_) (fun c7 => ?_)
  · refine sim_sub [0, 1] rfl ?_
    exact hK84 h
  · refine sim_iconst (v := 0) (by decide) dX12_cancel_46 ?_
    refine sim_istore_n (L' := [(3, .int (0 : Int32)), (0, .ref 75), (1, .int x1), (2, .int x2)]) rfl (by decide) dX12_cancel_47 ?_
    refine sim_sub [1, 2, 3, 0] rfl ?_
    refine sX12_cancel_l48 (fun g13 => ?_) _ (0 : Int32) h
    · refine sim_iinc (v := x2 + 1) (L' := [(2, .int (x2 + 1)), (0, .ref 75), (1, .int x1)]) 2 rfl rfl rfl (by decide) dX12_cancel_78 ?_
      refine sim_goto (tgt := 38) dX12_cancel_81 (by decide) ?_
      refine sim_sub [1, 2, 0] rfl ?_
      exact hR (x2 + 1) g13
theorem sX12_cancel_l38 {K84 : AH → Option (Int32 × AH)} {x1 : Int32} (hK84 : ∀ (g : AH), Sim RX12 cX12_cancel 4 (some .int) 4 (Option.map oI) (K84 g) 84 [(0, .ref 75), (1, .int x1)] [] g) : ∀ (n : Nat) (x2 : Int32) (h : AH), Sim RX12 cX12_cancel 4 (some .int) 4 (Option.map oI) (fX12_cancel_l38 K84 x1 n x2 h) 38 [(0, .ref 75), (1, .int x1), (2, .int x2)] [] h := by
  intro n
  induction n with
  | zero => intro x2 h; exact sim_none
  | succ n ih => intro x2 h; exact sX12_cancel_l38b ih hK84 x2 h
def fX12_cancel (p1 : Int32) (h : AH) : Option (Int32 × AH) :=
  if (fX12_in p1 (0 : Int32) (4 : Int32) h) = 0 then
    some ((-1 : Int32), h)
  else
    if (h.1 75 2) = 0 then
      some ((-1 : Int32), h)
    else
      if (8 : Int32) < (h.1 75 2) then
        some ((-1 : Int32), h)
      else
        (fX12_laysTruth h).bind (fun b4 =>
        letT (sI b4 75 43 (0 : Int32)) (fun g6 =>
        fX12_cancel_l38 (fun (g14 : AH) =>
          if p1 = 0 then
            some (g14.1 75 43, g14)
          else
            if (g14.1 75 43) = 0 then
              some ((-2 : Int32), g14)
            else
              if p1 = (1 : Int32) then
                some (g14.1 75 44, g14)
              else
                if p1 = (2 : Int32) then
                  some (g14.1 75 45, g14)
                else
                  if p1 = (3 : Int32) then
                    some (g14.1 75 46, g14)
                  else
                    some (g14.1 75 47, g14)) p1 fuel0 (0 : Int32) g6))
theorem sX12_cancel (p1 : Int32) (h : AH) : Sim RX12 cX12_cancel 4 (some .int) 4 (Option.map oI) (fX12_cancel p1 h) 0 [(0, .ref 75), (1, .int p1)] [] h := by
  unfold fX12_cancel
  refine sim_iload_n 1 rfl dX12_cancel_0 ?_
  refine sim_iconst (v := 0) (by decide) dX12_cancel_1 ?_
  refine sim_iconst (v := 4) (by decide) dX12_cancel_2 ?_
  refine sim_cS (As := [.int p1, .int (0 : Int32), .int (4 : Int32)]) (st := []) (r := (some (.int (fX12_in p1 (0 : Int32) (4 : Int32) h)))) (h1 := h) (okX12_in p1 (0 : Int32) (4 : Int32) h) (fun _ => rfl) mlX12_141 mtX12_in rfl (Nat.le_of_ble_eq_true rfl) rfl (Nat.le_of_ble_eq_true rfl) dX12_cancel_3 ?_
  refine sim_if_eq (tgt := 25) dX12_cancel_6 (by decide) (fun c1 => ?_) (fun c1 => ?_)
  · refine sim_iconst (v := -1) (by decide) dX12_cancel_25 ?_
    exact sim_iret rfl rfl dX12_cancel_26
  · refine sim_aload_n 0 rfl dX12_cancel_9 ?_
    refine sim_getI flX12_145 rfl rfl dX12_cancel_10 ?_
    refine sim_if_eq (tgt := 25) dX12_cancel_13 (by decide) (fun c2 => ?_) (fun c2 => ?_)
    · refine sim_iconst (v := -1) (by decide) dX12_cancel_25 ?_
      exact sim_iret rfl rfl dX12_cancel_26
    · refine sim_aload_n 0 rfl dX12_cancel_16 ?_
      refine sim_getI flX12_145 rfl rfl dX12_cancel_17 ?_
      refine sim_bipush (v := 8) (by decide) dX12_cancel_20 ?_
      refine sim_icmp_le (tgt := 27) dX12_cancel_22 (by decide) (fun c3 => ?_) (fun c3 => ?_)
      · refine sim_aload_n 0 rfl dX12_cancel_27 ?_
        refine sim_bind (fun b4 e5 => ?_)
        refine sim_cV (As := []) (st := []) (r := none) (h1 := b4) (okX12_laysTruth h b4 e5) (fun _ => rfl) mlX12_212 mtX12_laysTruth rfl rfl rfl rfl (Nat.le_of_ble_eq_true rfl) rfl (Nat.le_of_ble_eq_true rfl) dX12_cancel_28 ?_
        refine sim_aload_n 0 rfl dX12_cancel_31 ?_
        refine sim_iconst (v := 0) (by decide) dX12_cancel_32 ?_
        refine sim_putI fpX12_346 rfl rfl rfl rfl dX12_cancel_33 ?_
        refine sim_nmH (fun g6 => ?_)
        refine sim_iconst (v := 0) (by decide) dX12_cancel_36 ?_
        refine sim_istore_n (L' := [(2, .int (0 : Int32)), (0, .ref 75), (1, .int p1)]) rfl (by decide) dX12_cancel_37 ?_
        refine sim_sub [1, 2, 0] rfl ?_
        refine sX12_cancel_l38 (fun g14 => ?_) _ (0 : Int32) g6
        · refine sim_iload_n 1 rfl dX12_cancel_84 ?_
          refine sim_if_ne (tgt := 93) dX12_cancel_85 (by decide) (fun c15 => ?_) (fun c15 => ?_)
          · refine sim_aload_n 0 rfl dX12_cancel_93 ?_
            refine sim_getI flX12_346 rfl rfl dX12_cancel_94 ?_
            refine sim_if_ne (tgt := 105) dX12_cancel_97 (by decide) (fun c16 => ?_) (fun c16 => ?_)
            · refine sim_iload_n 1 rfl dX12_cancel_105 ?_
              refine sim_iconst (v := 1) (by decide) dX12_cancel_106 ?_
              refine sim_icmp_ne (tgt := 117) dX12_cancel_107 (by decide) (fun c17 => ?_) (fun c17 => ?_)
              · refine sim_iload_n 1 rfl dX12_cancel_117 ?_
                refine sim_iconst (v := 2) (by decide) dX12_cancel_118 ?_
                refine sim_icmp_ne (tgt := 129) dX12_cancel_119 (by decide) (fun c18 => ?_) (fun c18 => ?_)
                · refine sim_iload_n 1 rfl dX12_cancel_129 ?_
                  refine sim_iconst (v := 3) (by decide) dX12_cancel_130 ?_
                  refine sim_icmp_ne (tgt := 141) dX12_cancel_131 (by decide) (fun c19 => ?_) (fun c19 => ?_)
                  · refine sim_aload_n 0 rfl dX12_cancel_141 ?_
                    refine sim_getI flX12_358 rfl rfl dX12_cancel_142 ?_
                    exact sim_iret rfl rfl dX12_cancel_145
                  · refine sim_aload_n 0 rfl dX12_cancel_134 ?_
                    refine sim_getI flX12_355 rfl rfl dX12_cancel_135 ?_
                    refine sim_goto (tgt := 145) dX12_cancel_138 (by decide) ?_
                    exact sim_iret rfl rfl dX12_cancel_145
                · refine sim_aload_n 0 rfl dX12_cancel_122 ?_
                  refine sim_getI flX12_352 rfl rfl dX12_cancel_123 ?_
                  refine sim_goto (tgt := 145) dX12_cancel_126 (by decide) ?_
                  exact sim_iret rfl rfl dX12_cancel_145
              · refine sim_aload_n 0 rfl dX12_cancel_110 ?_
                refine sim_getI flX12_349 rfl rfl dX12_cancel_111 ?_
                refine sim_goto (tgt := 145) dX12_cancel_114 (by decide) ?_
                exact sim_iret rfl rfl dX12_cancel_145
            · refine sim_bipush (v := -2) (by decide) dX12_cancel_100 ?_
              refine sim_goto (tgt := 145) dX12_cancel_102 (by decide) ?_
              exact sim_iret rfl rfl dX12_cancel_145
          · refine sim_aload_n 0 rfl dX12_cancel_88 ?_
            refine sim_getI flX12_346 rfl rfl dX12_cancel_89 ?_
            exact sim_iret rfl rfl dX12_cancel_92
      · refine sim_iconst (v := -1) (by decide) dX12_cancel_25 ?_
        exact sim_iret rfl rfl dX12_cancel_26
theorem okX12_cancel (p1 : Int32) (h : AH) (b : Int32 × AH) (e : fX12_cancel p1 h = some b) : Ok yX12_cancel cX12_cancel 4 (some .int) 4 [.ref 75, .int p1] h (some (.int b.1), b.2) := ok_of (sX12_cancel p1 h) (by rw [e]; rfl) (by decide +kernel) (Nat.le_of_ble_eq_true rfl)
def fX12_standOn_l31b (rec : Int32 → Int32 → Option Int32) (K77 : Int32 → Option Int32) (x1 : Int32) (x2 : Int32) (x4 : Int32) (h : AH) (x3 : Int32) (x5 : Int32) : Option Int32 :=
  if x5 < x4 then
    (fX12_hasIt x4 x5 h).bind (fun b5 =>
    if b5 = 0 then
      rec x3 (x5 + 1)
    else
      if x5 = x1 then
        letT (x3 ||| (jshl (1 : Int32) x4)) (fun v9 =>
        rec v9 (x5 + 1))
      else
        if (fX12_has x3 x5 h) = 0 then
          rec x3 (x5 + 1)
        else
          letT (x3 ||| (jshl (1 : Int32) x4)) (fun v11 =>
          rec v11 (x5 + 1)))
  else
    K77 x3
def fX12_standOn_l31 (K77 : Int32 → Option Int32) (x1 : Int32) (x2 : Int32) (x4 : Int32) (h : AH) : Nat → Int32 → Int32 → Option Int32
  | 0, _, _ => none
  | n + 1, x3, x5 => fX12_standOn_l31b (fX12_standOn_l31 K77 x1 x2 x4 h n) K77 x1 x2 x4 h x3 x5
theorem sX12_standOn_l31b {rec : Int32 → Int32 → Option Int32} {K77 : Int32 → Option Int32} {x1 : Int32} {x2 : Int32} {x4 : Int32} {h : AH} (hR : ∀ (x3 : Int32) (x5 : Int32), Sim RX12 cX12_standOn 6 (some .int) 2 (Option.map (pI h)) (rec x3 x5) 31 [(0, .ref 75), (1, .int x1), (2, .int x2), (3, .int x3), (4, .int x4), (5, .int x5)] [] h) (hK77 : ∀ (y3 : Int32), Sim RX12 cX12_standOn 6 (some .int) 2 (Option.map (pI h)) (K77 y3) 77 [(0, .ref 75), (1, .int x1), (2, .int x2), (3, .int y3), (4, .int x4)] [] h) : ∀ (x3 : Int32) (x5 : Int32), Sim RX12 cX12_standOn 6 (some .int) 2 (Option.map (pI h)) (fX12_standOn_l31b rec K77 x1 x2 x4 h x3 x5) 31 [(0, .ref 75), (1, .int x1), (2, .int x2), (3, .int x3), (4, .int x4), (5, .int x5)] [] h := by
  intro x3 x5
  unfold fX12_standOn_l31b
  refine sim_iload 5 rfl dX12_standOn_31 ?_
  refine sim_iload 4 rfl dX12_standOn_33 ?_
  refine sim_icmp_ge (tgt := 77) dX12_standOn_35 (by decide) (fun c4 => ?_) (fun c4 => ?_)
  · refine sim_sub [0, 1, 2, 3, 4] rfl ?_
    exact hK77 x3
  · refine sim_aload_n 0 rfl dX12_standOn_38 ?_
    refine sim_iload 4 rfl dX12_standOn_39 ?_
    refine sim_iload 5 rfl dX12_standOn_41 ?_
    refine sim_bind (fun b5 e6 => ?_)
    refine sim_cV (As := [.int x4, .int x5]) (st := []) (r := (some (.int b5))) (h1 := h) (okX12_hasIt x4 x5 h b5 e6) (fun _ => rfl) mlX12_206 mtX12_hasIt rfl rfl rfl rfl (Nat.le_of_ble_eq_true rfl) rfl (Nat.le_of_ble_eq_true rfl) dX12_standOn_43 ?_
    refine sim_if_eq (tgt := 71) dX12_standOn_46 (by decide) (fun c7 => ?_) (fun c7 => ?_)
    · refine sim_iinc (v := x5 + 1) (L' := [(5, .int (x5 + 1)), (0, .ref 75), (1, .int x1), (2, .int x2), (3, .int x3), (4, .int x4)]) 5 rfl rfl rfl (by decide) dX12_standOn_71 ?_
      refine sim_goto (tgt := 31) dX12_standOn_74 (by decide) ?_
      refine sim_sub [1, 2, 3, 4, 5, 0] rfl ?_
      exact hR x3 (x5 + 1)
    · refine sim_iload 5 rfl dX12_standOn_49 ?_
      refine sim_iload_n 1 rfl dX12_standOn_51 ?_
      refine sim_icmp_eq (tgt := 64) dX12_standOn_52 (by decide) (fun c8 => ?_) (fun c8 => ?_)
      · refine sim_iload_n 3 rfl dX12_standOn_64 ?_
        refine sim_iconst (v := 1) (by decide) dX12_standOn_65 ?_
        refine sim_iload 4 rfl dX12_standOn_66 ?_
        refine sim_ishl dX12_standOn_68 ?_
        refine sim_ior dX12_standOn_69 ?_
        refine sim_nmI (fun v9 => ?_)
        refine sim_istore_n (L' := [(3, .int v9), (0, .ref 75), (1, .int x1), (2, .int x2), (4, .int x4), (5, .int x5)]) rfl (by decide) dX12_standOn_70 ?_
        refine sim_iinc (v := x5 + 1) (L' := [(5, .int (x5 + 1)), (3, .int v9), (0, .ref 75), (1, .int x1), (2, .int x2), (4, .int x4)]) 5 rfl rfl rfl (by decide) dX12_standOn_71 ?_
        refine sim_goto (tgt := 31) dX12_standOn_74 (by decide) ?_
        refine sim_sub [2, 3, 4, 1, 5, 0] rfl ?_
        exact hR v9 (x5 + 1)
      · refine sim_iload_n 3 rfl dX12_standOn_55 ?_
        refine sim_iload 5 rfl dX12_standOn_56 ?_
        refine sim_cS (As := [.int x3, .int x5]) (st := []) (r := (some (.int (fX12_has x3 x5 h)))) (h1 := h) (okX12_has x3 x5 h) (fun _ => rfl) mlX12_327 mtX12_has rfl (Nat.le_of_ble_eq_true rfl) rfl (Nat.le_of_ble_eq_true rfl) dX12_standOn_58 ?_
        refine sim_if_eq (tgt := 71) dX12_standOn_61 (by decide) (fun c10 => ?_) (fun c10 => ?_)
        · refine sim_iinc (v := x5 + 1) (L' := [(5, .int (x5 + 1)), (0, .ref 75), (1, .int x1), (2, .int x2), (3, .int x3), (4, .int x4)]) 5 rfl rfl rfl (by decide) dX12_standOn_71 ?_
          refine sim_goto (tgt := 31) dX12_standOn_74 (by decide) ?_
          refine sim_sub [1, 2, 3, 4, 5, 0] rfl ?_
          exact hR x3 (x5 + 1)
        · refine sim_iload_n 3 rfl dX12_standOn_64 ?_
          refine sim_iconst (v := 1) (by decide) dX12_standOn_65 ?_
          refine sim_iload 4 rfl dX12_standOn_66 ?_
          refine sim_ishl dX12_standOn_68 ?_
          refine sim_ior dX12_standOn_69 ?_
          refine sim_nmI (fun v11 => ?_)
          refine sim_istore_n (L' := [(3, .int v11), (0, .ref 75), (1, .int x1), (2, .int x2), (4, .int x4), (5, .int x5)]) rfl (by decide) dX12_standOn_70 ?_
          refine sim_iinc (v := x5 + 1) (L' := [(5, .int (x5 + 1)), (3, .int v11), (0, .ref 75), (1, .int x1), (2, .int x2), (4, .int x4)]) 5 rfl rfl rfl (by decide) dX12_standOn_71 ?_
          refine sim_goto (tgt := 31) dX12_standOn_74 (by decide) ?_
          refine sim_sub [2, 3, 4, 1, 5, 0] rfl ?_
          exact hR v11 (x5 + 1)
theorem sX12_standOn_l31 {K77 : Int32 → Option Int32} {x1 : Int32} {x2 : Int32} {x4 : Int32} {h : AH} (hK77 : ∀ (y3 : Int32), Sim RX12 cX12_standOn 6 (some .int) 2 (Option.map (pI h)) (K77 y3) 77 [(0, .ref 75), (1, .int x1), (2, .int x2), (3, .int y3), (4, .int x4)] [] h) : ∀ (n : Nat) (x3 : Int32) (x5 : Int32), Sim RX12 cX12_standOn 6 (some .int) 2 (Option.map (pI h)) (fX12_standOn_l31 K77 x1 x2 x4 h n x3 x5) 31 [(0, .ref 75), (1, .int x1), (2, .int x2), (3, .int x3), (4, .int x4), (5, .int x5)] [] h := by
  intro n
  induction n with
  | zero => intro x3 x5; exact sim_none
  | succ n ih => intro x3 x5; exact sX12_standOn_l31b ih hK77 x3 x5
def fX12_standOn_l7b (rec : Int32 → Int32 → Option Int32) (x1 : Int32) (x2 : Int32) (h : AH) (x3 : Int32) (x4 : Int32) : Option Int32 :=
  if x4 < (h.1 75 2) then
    if (fX12_has x2 x4 h) = 0 then
      fX12_standOn_l31 (fun (y12 : Int32) =>
        rec y12 (x4 + 1)) x1 x2 x4 h fuel0 x3 (0 : Int32)
    else
      rec x3 (x4 + 1)
  else
    some x3
def fX12_standOn_l7 (x1 : Int32) (x2 : Int32) (h : AH) : Nat → Int32 → Int32 → Option Int32
  | 0, _, _ => none
  | n + 1, x3, x4 => fX12_standOn_l7b (fX12_standOn_l7 x1 x2 h n) x1 x2 h x3 x4
theorem sX12_standOn_l7b {rec : Int32 → Int32 → Option Int32} {x1 : Int32} {x2 : Int32} {h : AH} (hR : ∀ (x3 : Int32) (x4 : Int32), Sim RX12 cX12_standOn 6 (some .int) 2 (Option.map (pI h)) (rec x3 x4) 7 [(0, .ref 75), (1, .int x1), (2, .int x2), (3, .int x3), (4, .int x4)] [] h) : ∀ (x3 : Int32) (x4 : Int32), Sim RX12 cX12_standOn 6 (some .int) 2 (Option.map (pI h)) (fX12_standOn_l7b rec x1 x2 h x3 x4) 7 [(0, .ref 75), (1, .int x1), (2, .int x2), (3, .int x3), (4, .int x4)] [] h := by
  intro x3 x4
  unfold fX12_standOn_l7b
  refine sim_iload 4 rfl dX12_standOn_7 ?_
  refine sim_aload_n 0 rfl dX12_standOn_9 ?_
  refine sim_getI flX12_145 rfl rfl dX12_standOn_10 ?_
  refine sim_icmp_ge (tgt := 83) dX12_standOn_13 (by decide) (fun c2 => ?_) (fun c2 => ?_)
  · refine sim_iload_n 3 rfl dX12_standOn_83 ?_
    exact sim_iret rfl rfl dX12_standOn_84
  · refine sim_iload_n 2 rfl dX12_standOn_16 ?_
    refine sim_iload 4 rfl dX12_standOn_17 ?_
    refine sim_cS (As := [.int x2, .int x4]) (st := []) (r := (some (.int (fX12_has x2 x4 h)))) (h1 := h) (okX12_has x2 x4 h) (fun _ => rfl) mlX12_327 mtX12_has rfl (Nat.le_of_ble_eq_true rfl) rfl (Nat.le_of_ble_eq_true rfl) dX12_standOn_19 ?_
    refine sim_if_eq (tgt := 28) dX12_standOn_22 (by decide) (fun c3 => ?_) (fun c3 => ?_)
    · refine sim_iconst (v := 0) (by decide) dX12_standOn_28 ?_
      refine sim_istore (L' := [(5, .int (0 : Int32)), (0, .ref 75), (1, .int x1), (2, .int x2), (3, .int x3), (4, .int x4)]) rfl (by decide) dX12_standOn_29 ?_
      refine sim_sub [1, 2, 3, 4, 5, 0] rfl ?_
      refine sX12_standOn_l31 (fun y12 => ?_) _ x3 (0 : Int32)
      · refine sim_iinc (v := x4 + 1) (L' := [(4, .int (x4 + 1)), (0, .ref 75), (1, .int x1), (2, .int x2), (3, .int y12)]) 4 rfl rfl rfl (by decide) dX12_standOn_77 ?_
        refine sim_goto (tgt := 7) dX12_standOn_80 (by decide) ?_
        refine sim_sub [1, 2, 3, 4, 0] rfl ?_
        exact hR y12 (x4 + 1)
    · refine sim_goto (tgt := 77) dX12_standOn_25 (by decide) ?_
      refine sim_iinc (v := x4 + 1) (L' := [(4, .int (x4 + 1)), (0, .ref 75), (1, .int x1), (2, .int x2), (3, .int x3)]) 4 rfl rfl rfl (by decide) dX12_standOn_77 ?_
      refine sim_goto (tgt := 7) dX12_standOn_80 (by decide) ?_
      refine sim_sub [1, 2, 3, 4, 0] rfl ?_
      exact hR x3 (x4 + 1)
theorem sX12_standOn_l7 {x1 : Int32} {x2 : Int32} {h : AH} : ∀ (n : Nat) (x3 : Int32) (x4 : Int32), Sim RX12 cX12_standOn 6 (some .int) 2 (Option.map (pI h)) (fX12_standOn_l7 x1 x2 h n x3 x4) 7 [(0, .ref 75), (1, .int x1), (2, .int x2), (3, .int x3), (4, .int x4)] [] h := by
  intro n
  induction n with
  | zero => intro x3 x4; exact sim_none
  | succ n ih => intro x3 x4; exact sX12_standOn_l7b ih x3 x4
def fX12_standOn (p1 : Int32) (p2 : Int32) (h : AH) : Option Int32 :=
  letT (p1 + (1 : Int32)) (fun v1 =>
  fX12_standOn_l7 p1 p2 h fuel0 (0 : Int32) v1)
theorem sX12_standOn (p1 : Int32) (p2 : Int32) (h : AH) : Sim RX12 cX12_standOn 6 (some .int) 2 (Option.map (pI h)) (fX12_standOn p1 p2 h) 0 [(0, .ref 75), (1, .int p1), (2, .int p2)] [] h := by
  unfold fX12_standOn
  refine sim_iconst (v := 0) (by decide) dX12_standOn_0 ?_
  refine sim_istore_n (L' := [(3, .int (0 : Int32)), (0, .ref 75), (1, .int p1), (2, .int p2)]) rfl (by decide) dX12_standOn_1 ?_
  refine sim_iload_n 2 rfl dX12_standOn_2 ?_
  refine sim_iconst (v := 1) (by decide) dX12_standOn_3 ?_
  refine sim_iadd dX12_standOn_4 ?_
  refine sim_nmI (fun v1 => ?_)
  refine sim_istore (L' := [(4, .int v1), (3, .int (0 : Int32)), (0, .ref 75), (1, .int p1), (2, .int p2)]) rfl (by decide) dX12_standOn_5 ?_
  refine sim_sub [2, 3, 4, 1, 0] rfl ?_
  refine sX12_standOn_l7 _ (0 : Int32) v1
theorem okX12_standOn (p1 : Int32) (p2 : Int32) (h : AH) (b : Int32) (e : fX12_standOn p1 p2 h = some b) : Ok yX12_standOn cX12_standOn 6 (some .int) 2 [.ref 75, .int p1, .int p2] h (some (.int b), h) := ok_of (sX12_standOn p1 p2 h) (by rw [e]; rfl) (by decide +kernel) (Nat.le_of_ble_eq_true rfl)
def fX12_needsOf_l4b (rec : Int32 → Int32 → Option Int32) (x1 : Int32) (h : AH) (x2 : Int32) (x3 : Int32) : Option Int32 :=
  if x3 < x1 then
    (fX12_standOn x3 (0 : Int32) h).bind (fun b2 =>
    if (fX12_has b2 x1 h) = 0 then
      rec x2 (x3 + 1)
    else
      letT (x2 ||| (jshl (1 : Int32) x3)) (fun v5 =>
      rec v5 (x3 + 1)))
  else
    some x2
def fX12_needsOf_l4 (x1 : Int32) (h : AH) : Nat → Int32 → Int32 → Option Int32
  | 0, _, _ => none
  | n + 1, x2, x3 => fX12_needsOf_l4b (fX12_needsOf_l4 x1 h n) x1 h x2 x3
theorem sX12_needsOf_l4b {rec : Int32 → Int32 → Option Int32} {x1 : Int32} {h : AH} (hR : ∀ (x2 : Int32) (x3 : Int32), Sim RX12 cX12_needsOf 4 (some .int) 3 (Option.map (pI h)) (rec x2 x3) 4 [(0, .ref 75), (1, .int x1), (2, .int x2), (3, .int x3)] [] h) : ∀ (x2 : Int32) (x3 : Int32), Sim RX12 cX12_needsOf 4 (some .int) 3 (Option.map (pI h)) (fX12_needsOf_l4b rec x1 h x2 x3) 4 [(0, .ref 75), (1, .int x1), (2, .int x2), (3, .int x3)] [] h := by
  intro x2 x3
  unfold fX12_needsOf_l4b
  refine sim_iload_n 3 rfl dX12_needsOf_4 ?_
  refine sim_iload_n 1 rfl dX12_needsOf_5 ?_
  refine sim_icmp_ge (tgt := 34) dX12_needsOf_6 (by decide) (fun c1 => ?_) (fun c1 => ?_)
  · refine sim_iload_n 2 rfl dX12_needsOf_34 ?_
    exact sim_iret rfl rfl dX12_needsOf_35
  · refine sim_aload_n 0 rfl dX12_needsOf_9 ?_
    refine sim_iload_n 3 rfl dX12_needsOf_10 ?_
    refine sim_iconst (v := 0) (by decide) dX12_needsOf_11 ?_
    refine sim_bind (fun b2 e3 => ?_)
    refine sim_cV (As := [.int x3, .int (0 : Int32)]) (st := []) (r := (some (.int b2))) (h1 := h) (okX12_standOn x3 (0 : Int32) h b2 e3) (fun _ => rfl) mlX12_364 mtX12_standOn rfl rfl rfl rfl (Nat.le_of_ble_eq_true rfl) rfl (Nat.le_of_ble_eq_true rfl) dX12_needsOf_12 ?_
    refine sim_iload_n 1 rfl dX12_needsOf_15 ?_
    refine sim_cS (As := [.int b2, .int x1]) (st := []) (r := (some (.int (fX12_has b2 x1 h)))) (h1 := h) (okX12_has b2 x1 h) (fun _ => rfl) mlX12_327 mtX12_has rfl (Nat.le_of_ble_eq_true rfl) rfl (Nat.le_of_ble_eq_true rfl) dX12_needsOf_16 ?_
    refine sim_if_eq (tgt := 28) dX12_needsOf_19 (by decide) (fun c4 => ?_) (fun c4 => ?_)
    · refine sim_iinc (v := x3 + 1) (L' := [(3, .int (x3 + 1)), (0, .ref 75), (1, .int x1), (2, .int x2)]) 3 rfl rfl rfl (by decide) dX12_needsOf_28 ?_
      refine sim_goto (tgt := 4) dX12_needsOf_31 (by decide) ?_
      refine sim_sub [1, 2, 3, 0] rfl ?_
      exact hR x2 (x3 + 1)
    · refine sim_iload_n 2 rfl dX12_needsOf_22 ?_
      refine sim_iconst (v := 1) (by decide) dX12_needsOf_23 ?_
      refine sim_iload_n 3 rfl dX12_needsOf_24 ?_
      refine sim_ishl dX12_needsOf_25 ?_
      refine sim_ior dX12_needsOf_26 ?_
      refine sim_nmI (fun v5 => ?_)
      refine sim_istore_n (L' := [(2, .int v5), (0, .ref 75), (1, .int x1), (3, .int x3)]) rfl (by decide) dX12_needsOf_27 ?_
      refine sim_iinc (v := x3 + 1) (L' := [(3, .int (x3 + 1)), (2, .int v5), (0, .ref 75), (1, .int x1)]) 3 rfl rfl rfl (by decide) dX12_needsOf_28 ?_
      refine sim_goto (tgt := 4) dX12_needsOf_31 (by decide) ?_
      refine sim_sub [2, 3, 1, 0] rfl ?_
      exact hR v5 (x3 + 1)
theorem sX12_needsOf_l4 {x1 : Int32} {h : AH} : ∀ (n : Nat) (x2 : Int32) (x3 : Int32), Sim RX12 cX12_needsOf 4 (some .int) 3 (Option.map (pI h)) (fX12_needsOf_l4 x1 h n x2 x3) 4 [(0, .ref 75), (1, .int x1), (2, .int x2), (3, .int x3)] [] h := by
  intro n
  induction n with
  | zero => intro x2 x3; exact sim_none
  | succ n ih => intro x2 x3; exact sX12_needsOf_l4b ih x2 x3
def fX12_needsOf (p1 : Int32) (h : AH) : Option Int32 :=
  fX12_needsOf_l4 p1 h fuel0 (0 : Int32) (0 : Int32)
theorem sX12_needsOf (p1 : Int32) (h : AH) : Sim RX12 cX12_needsOf 4 (some .int) 3 (Option.map (pI h)) (fX12_needsOf p1 h) 0 [(0, .ref 75), (1, .int p1)] [] h := by
  unfold fX12_needsOf
  refine sim_iconst (v := 0) (by decide) dX12_needsOf_0 ?_
  refine sim_istore_n (L' := [(2, .int (0 : Int32)), (0, .ref 75), (1, .int p1)]) rfl (by decide) dX12_needsOf_1 ?_
  refine sim_iconst (v := 0) (by decide) dX12_needsOf_2 ?_
  refine sim_istore_n (L' := [(3, .int (0 : Int32)), (2, .int (0 : Int32)), (0, .ref 75), (1, .int p1)]) rfl (by decide) dX12_needsOf_3 ?_
  refine sim_sub [2, 3, 1, 0] rfl ?_
  refine sX12_needsOf_l4 _ (0 : Int32) (0 : Int32)
theorem okX12_needsOf (p1 : Int32) (h : AH) (b : Int32) (e : fX12_needsOf p1 h = some b) : Ok yX12_needsOf cX12_needsOf 4 (some .int) 3 [.ref 75, .int p1] h (some (.int b), h) := ok_of (sX12_needsOf p1 h) (by rw [e]; rfl) (by decide +kernel) (Nat.le_of_ble_eq_true rfl)
def fX12_stands (p1 : Int32) (p2 : Int32) (h : AH) : Option Int32 :=
  if (fX12_isLine p1 h) = 0 then
    some (-1 : Int32)
  else
    if (fX12_in p2 (0 : Int32) (1 : Int32) h) = 0 then
      some (-1 : Int32)
    else
      if p2 = 0 then
        (fX12_standOn p1 (0 : Int32) h).bind (fun b6 =>
        some b6)
      else
        (fX12_needsOf p1 h).bind (fun b4 =>
        some b4)
theorem sX12_stands (p1 : Int32) (p2 : Int32) (h : AH) : Sim RX12 cX12_stands 3 (some .int) 4 (Option.map (pI h)) (fX12_stands p1 p2 h) 0 [(0, .ref 75), (1, .int p1), (2, .int p2)] [] h := by
  unfold fX12_stands
  refine sim_aload_n 0 rfl dX12_stands_0 ?_
  refine sim_iload_n 1 rfl dX12_stands_1 ?_
  refine sim_cV (As := [.int p1]) (st := []) (r := (some (.int (fX12_isLine p1 h)))) (h1 := h) (okX12_isLine p1 h) (fun _ => rfl) mlX12_209 mtX12_isLine rfl rfl rfl rfl (Nat.le_of_ble_eq_true rfl) rfl (Nat.le_of_ble_eq_true rfl) dX12_stands_2 ?_
  refine sim_if_eq (tgt := 17) dX12_stands_5 (by decide) (fun c1 => ?_) (fun c1 => ?_)
  · refine sim_iconst (v := -1) (by decide) dX12_stands_17 ?_
    exact sim_iret rfl rfl dX12_stands_18
  · refine sim_iload_n 2 rfl dX12_stands_8 ?_
    refine sim_iconst (v := 0) (by decide) dX12_stands_9 ?_
    refine sim_iconst (v := 1) (by decide) dX12_stands_10 ?_
    refine sim_cS (As := [.int p2, .int (0 : Int32), .int (1 : Int32)]) (st := []) (r := (some (.int (fX12_in p2 (0 : Int32) (1 : Int32) h)))) (h1 := h) (okX12_in p2 (0 : Int32) (1 : Int32) h) (fun _ => rfl) mlX12_141 mtX12_in rfl (Nat.le_of_ble_eq_true rfl) rfl (Nat.le_of_ble_eq_true rfl) dX12_stands_11 ?_
    refine sim_if_ne (tgt := 19) dX12_stands_14 (by decide) (fun c2 => ?_) (fun c2 => ?_)
    · refine sim_iload_n 2 rfl dX12_stands_19 ?_
      refine sim_if_ne (tgt := 32) dX12_stands_20 (by decide) (fun c3 => ?_) (fun c3 => ?_)
      · refine sim_aload_n 0 rfl dX12_stands_32 ?_
        refine sim_iload_n 1 rfl dX12_stands_33 ?_
        refine sim_bind (fun b4 e5 => ?_)
        refine sim_cV (As := [.int p1]) (st := []) (r := (some (.int b4))) (h1 := h) (okX12_needsOf p1 h b4 e5) (fun _ => rfl) mlX12_367 mtX12_needsOf rfl rfl rfl rfl (Nat.le_of_ble_eq_true rfl) rfl (Nat.le_of_ble_eq_true rfl) dX12_stands_34 ?_
        exact sim_iret rfl rfl dX12_stands_37
      · refine sim_aload_n 0 rfl dX12_stands_23 ?_
        refine sim_iload_n 1 rfl dX12_stands_24 ?_
        refine sim_iconst (v := 0) (by decide) dX12_stands_25 ?_
        refine sim_bind (fun b6 e7 => ?_)
        refine sim_cV (As := [.int p1, .int (0 : Int32)]) (st := []) (r := (some (.int b6))) (h1 := h) (okX12_standOn p1 (0 : Int32) h b6 e7) (fun _ => rfl) mlX12_364 mtX12_standOn rfl rfl rfl rfl (Nat.le_of_ble_eq_true rfl) rfl (Nat.le_of_ble_eq_true rfl) dX12_stands_26 ?_
        refine sim_goto (tgt := 37) dX12_stands_29 (by decide) ?_
        exact sim_iret rfl rfl dX12_stands_37
    · refine sim_iconst (v := -1) (by decide) dX12_stands_17 ?_
      exact sim_iret rfl rfl dX12_stands_18
theorem okX12_stands (p1 : Int32) (p2 : Int32) (h : AH) (b : Int32) (e : fX12_stands p1 p2 h = some b) : Ok yX12_stands cX12_stands 3 (some .int) 4 [.ref 75, .int p1, .int p2] h (some (.int b), h) := ok_of (sX12_stands p1 p2 h) (by rw [e]; rfl) (by decide +kernel) (Nat.le_of_ble_eq_true rfl)
def fX12_anew_l45b (rec : Int32 → Int32 → Option Int32) (K104 : Int32 → Option Int32) (x1 : Int32) (x2 : Int32) (x3 : Int32) (h : AH) (x4 : Int32) (x5 : Int32) : Option Int32 :=
  if x5 < (h.1 75 2) then
    (fX12_standOn x1 (0 : Int32) h).bind (fun b7 =>
    if (fX12_has b7 x5 h) = 0 then
      rec x4 (x5 + 1)
    else
      if (fX12_has x2 x5 h) = 0 then
        (fX12_standOn x5 (0 : Int32) h).bind (fun b11 =>
        if (b11 &&& x2) = 0 then
          rec x4 (x5 + 1)
        else
          letT (x4 ||| (jshl (1 : Int32) x5)) (fun v14 =>
          rec v14 (x5 + 1)))
      else
        rec x4 (x5 + 1))
  else
    K104 x4
def fX12_anew_l45 (K104 : Int32 → Option Int32) (x1 : Int32) (x2 : Int32) (x3 : Int32) (h : AH) : Nat → Int32 → Int32 → Option Int32
  | 0, _, _ => none
  | n + 1, x4, x5 => fX12_anew_l45b (fX12_anew_l45 K104 x1 x2 x3 h n) K104 x1 x2 x3 h x4 x5
theorem sX12_anew_l45b {rec : Int32 → Int32 → Option Int32} {K104 : Int32 → Option Int32} {x1 : Int32} {x2 : Int32} {x3 : Int32} {h : AH} (hR : ∀ (x4 : Int32) (x5 : Int32), Sim RX12 cX12_anew 7 (some .int) 3 (Option.map (pI h)) (rec x4 x5) 45 [(0, .ref 75), (1, .int x1), (2, .int x2), (3, .int x3), (4, .int x4), (5, .int x5)] [] h) (hK104 : ∀ (y4 : Int32), Sim RX12 cX12_anew 7 (some .int) 3 (Option.map (pI h)) (K104 y4) 104 [(0, .ref 75), (1, .int x1), (2, .int x2), (3, .int x3), (4, .int y4)] [] h) : ∀ (x4 : Int32) (x5 : Int32), Sim RX12 cX12_anew 7 (some .int) 3 (Option.map (pI h)) (fX12_anew_l45b rec K104 x1 x2 x3 h x4 x5) 45 [(0, .ref 75), (1, .int x1), (2, .int x2), (3, .int x3), (4, .int x4), (5, .int x5)] [] h := by
  intro x4 x5
  unfold fX12_anew_l45b
  refine sim_iload 5 rfl dX12_anew_45 ?_
  refine sim_aload_n 0 rfl dX12_anew_47 ?_
  refine sim_getI flX12_145 rfl rfl dX12_anew_48 ?_
  refine sim_icmp_ge (tgt := 104) dX12_anew_51 (by decide) (fun c6 => ?_) (fun c6 => ?_)
  · refine sim_sub [0, 1, 2, 3, 4] rfl ?_
    exact hK104 x4
  · refine sim_aload_n 0 rfl dX12_anew_54 ?_
    refine sim_iload_n 1 rfl dX12_anew_55 ?_
    refine sim_iconst (v := 0) (by decide) dX12_anew_56 ?_
    refine sim_bind (fun b7 e8 => ?_)
    refine sim_cV (As := [.int x1, .int (0 : Int32)]) (st := []) (r := (some (.int b7))) (h1 := h) (okX12_standOn x1 (0 : Int32) h b7 e8) (fun _ => rfl) mlX12_364 mtX12_standOn rfl rfl rfl rfl (Nat.le_of_ble_eq_true rfl) rfl (Nat.le_of_ble_eq_true rfl) dX12_anew_57 ?_
    refine sim_iload 5 rfl dX12_anew_60 ?_
    refine sim_cS (As := [.int b7, .int x5]) (st := []) (r := (some (.int (fX12_has b7 x5 h)))) (h1 := h) (okX12_has b7 x5 h) (fun _ => rfl) mlX12_327 mtX12_has rfl (Nat.le_of_ble_eq_true rfl) rfl (Nat.le_of_ble_eq_true rfl) dX12_anew_62 ?_
    refine sim_if_eq (tgt := 98) dX12_anew_65 (by decide) (fun c9 => ?_) (fun c9 => ?_)
    · refine sim_iinc (v := x5 + 1) (L' := [(5, .int (x5 + 1)), (0, .ref 75), (1, .int x1), (2, .int x2), (3, .int x3), (4, .int x4)]) 5 rfl rfl rfl (by decide) dX12_anew_98 ?_
      refine sim_goto (tgt := 45) dX12_anew_101 (by decide) ?_
      refine sim_sub [1, 2, 3, 4, 5, 0] rfl ?_
      exact hR x4 (x5 + 1)
    · refine sim_iload_n 2 rfl dX12_anew_68 ?_
      refine sim_iload 5 rfl dX12_anew_69 ?_
      refine sim_cS (As := [.int x2, .int x5]) (st := []) (r := (some (.int (fX12_has x2 x5 h)))) (h1 := h) (okX12_has x2 x5 h) (fun _ => rfl) mlX12_327 mtX12_has rfl (Nat.le_of_ble_eq_true rfl) rfl (Nat.le_of_ble_eq_true rfl) dX12_anew_71 ?_
      refine sim_if_ne (tgt := 98) dX12_anew_74 (by decide) (fun c10 => ?_) (fun c10 => ?_)
      · refine sim_iinc (v := x5 + 1) (L' := [(5, .int (x5 + 1)), (0, .ref 75), (1, .int x1), (2, .int x2), (3, .int x3), (4, .int x4)]) 5 rfl rfl rfl (by decide) dX12_anew_98 ?_
        refine sim_goto (tgt := 45) dX12_anew_101 (by decide) ?_
        refine sim_sub [1, 2, 3, 4, 5, 0] rfl ?_
        exact hR x4 (x5 + 1)
      · refine sim_aload_n 0 rfl dX12_anew_77 ?_
        refine sim_iload 5 rfl dX12_anew_78 ?_
        refine sim_iconst (v := 0) (by decide) dX12_anew_80 ?_
        refine sim_bind (fun b11 e12 => ?_)
        refine sim_cV (As := [.int x5, .int (0 : Int32)]) (st := []) (r := (some (.int b11))) (h1 := h) (okX12_standOn x5 (0 : Int32) h b11 e12) (fun _ => rfl) mlX12_364 mtX12_standOn rfl rfl rfl rfl (Nat.le_of_ble_eq_true rfl) rfl (Nat.le_of_ble_eq_true rfl) dX12_anew_81 ?_
        refine sim_iload_n 2 rfl dX12_anew_84 ?_
        refine sim_iand dX12_anew_85 ?_
        refine sim_if_eq (tgt := 98) dX12_anew_86 (by decide) (fun c13 => ?_) (fun c13 => ?_)
        · refine sim_iinc (v := x5 + 1) (L' := [(5, .int (x5 + 1)), (0, .ref 75), (1, .int x1), (2, .int x2), (3, .int x3), (4, .int x4)]) 5 rfl rfl rfl (by decide) dX12_anew_98 ?_
          refine sim_goto (tgt := 45) dX12_anew_101 (by decide) ?_
          refine sim_sub [1, 2, 3, 4, 5, 0] rfl ?_
          exact hR x4 (x5 + 1)
        · refine sim_iload 4 rfl dX12_anew_89 ?_
          refine sim_iconst (v := 1) (by decide) dX12_anew_91 ?_
          refine sim_iload 5 rfl dX12_anew_92 ?_
          refine sim_ishl dX12_anew_94 ?_
          refine sim_ior dX12_anew_95 ?_
          refine sim_nmI (fun v14 => ?_)
          refine sim_istore (L' := [(4, .int v14), (0, .ref 75), (1, .int x1), (2, .int x2), (3, .int x3), (5, .int x5)]) rfl (by decide) dX12_anew_96 ?_
          refine sim_iinc (v := x5 + 1) (L' := [(5, .int (x5 + 1)), (4, .int v14), (0, .ref 75), (1, .int x1), (2, .int x2), (3, .int x3)]) 5 rfl rfl rfl (by decide) dX12_anew_98 ?_
          refine sim_goto (tgt := 45) dX12_anew_101 (by decide) ?_
          refine sim_sub [2, 3, 4, 5, 1, 0] rfl ?_
          exact hR v14 (x5 + 1)
theorem sX12_anew_l45 {K104 : Int32 → Option Int32} {x1 : Int32} {x2 : Int32} {x3 : Int32} {h : AH} (hK104 : ∀ (y4 : Int32), Sim RX12 cX12_anew 7 (some .int) 3 (Option.map (pI h)) (K104 y4) 104 [(0, .ref 75), (1, .int x1), (2, .int x2), (3, .int x3), (4, .int y4)] [] h) : ∀ (n : Nat) (x4 : Int32) (x5 : Int32), Sim RX12 cX12_anew 7 (some .int) 3 (Option.map (pI h)) (fX12_anew_l45 K104 x1 x2 x3 h n x4 x5) 45 [(0, .ref 75), (1, .int x1), (2, .int x2), (3, .int x3), (4, .int x4), (5, .int x5)] [] h := by
  intro n
  induction n with
  | zero => intro x4 x5; exact sim_none
  | succ n ih => intro x4 x5; exact sX12_anew_l45b ih hK104 x4 x5
def fX12_anew_l107b (rec : Int32 → Option Int32) (K144 : Option Int32) (x1 : Int32) (x2 : Int32) (x3 : Int32) (x4 : Int32) (h : AH) (x5 : Int32) : Option Int32 :=
  if x5 < (h.1 75 2) then
    if (fX12_has x2 x5 h) = 0 then
      rec (x5 + 1)
    else
      (fX12_hasIt x5 x1 h).bind (fun b18 =>
      if b18 = 0 then
        rec (x5 + 1)
      else
        some (-2 : Int32))
  else
    K144
def fX12_anew_l107 (K144 : Option Int32) (x1 : Int32) (x2 : Int32) (x3 : Int32) (x4 : Int32) (h : AH) : Nat → Int32 → Option Int32
  | 0, _ => none
  | n + 1, x5 => fX12_anew_l107b (fX12_anew_l107 K144 x1 x2 x3 x4 h n) K144 x1 x2 x3 x4 h x5
theorem sX12_anew_l107b {rec : Int32 → Option Int32} {K144 : Option Int32} {x1 : Int32} {x2 : Int32} {x3 : Int32} {x4 : Int32} {h : AH} (hR : ∀ (x5 : Int32), Sim RX12 cX12_anew 7 (some .int) 3 (Option.map (pI h)) (rec x5) 107 [(0, .ref 75), (1, .int x1), (2, .int x2), (3, .int x3), (4, .int x4), (5, .int x5)] [] h) (hK144 : Sim RX12 cX12_anew 7 (some .int) 3 (Option.map (pI h)) (K144) 144 [(0, .ref 75), (1, .int x1), (2, .int x2), (3, .int x3), (4, .int x4)] [] h) : ∀ (x5 : Int32), Sim RX12 cX12_anew 7 (some .int) 3 (Option.map (pI h)) (fX12_anew_l107b rec K144 x1 x2 x3 x4 h x5) 107 [(0, .ref 75), (1, .int x1), (2, .int x2), (3, .int x3), (4, .int x4), (5, .int x5)] [] h := by
  intro x5
  unfold fX12_anew_l107b
  refine sim_iload 5 rfl dX12_anew_107 ?_
  refine sim_aload_n 0 rfl dX12_anew_109 ?_
  refine sim_getI flX12_145 rfl rfl dX12_anew_110 ?_
  refine sim_icmp_ge (tgt := 144) dX12_anew_113 (by decide) (fun c16 => ?_) (fun c16 => ?_)
  · refine sim_sub [0, 1, 2, 3, 4] rfl ?_
    exact hK144
  · refine sim_iload_n 2 rfl dX12_anew_116 ?_
    refine sim_iload 5 rfl dX12_anew_117 ?_
    refine sim_cS (As := [.int x2, .int x5]) (st := []) (r := (some (.int (fX12_has x2 x5 h)))) (h1 := h) (okX12_has x2 x5 h) (fun _ => rfl) mlX12_327 mtX12_has rfl (Nat.le_of_ble_eq_true rfl) rfl (Nat.le_of_ble_eq_true rfl) dX12_anew_119 ?_
    refine sim_if_eq (tgt := 138) dX12_anew_122 (by decide) (fun c17 => ?_) (fun c17 => ?_)
    · refine sim_iinc (v := x5 + 1) (L' := [(5, .int (x5 + 1)), (0, .ref 75), (1, .int x1), (2, .int x2), (3, .int x3), (4, .int x4)]) 5 rfl rfl rfl (by decide) dX12_anew_138 ?_
      refine sim_goto (tgt := 107) dX12_anew_141 (by decide) ?_
      refine sim_sub [1, 2, 3, 4, 5, 0] rfl ?_
      exact hR (x5 + 1)
    · refine sim_aload_n 0 rfl dX12_anew_125 ?_
      refine sim_iload 5 rfl dX12_anew_126 ?_
      refine sim_iload_n 1 rfl dX12_anew_128 ?_
      refine sim_bind (fun b18 e19 => ?_)
      refine sim_cV (As := [.int x5, .int x1]) (st := []) (r := (some (.int b18))) (h1 := h) (okX12_hasIt x5 x1 h b18 e19) (fun _ => rfl) mlX12_206 mtX12_hasIt rfl rfl rfl rfl (Nat.le_of_ble_eq_true rfl) rfl (Nat.le_of_ble_eq_true rfl) dX12_anew_129 ?_
      refine sim_if_eq (tgt := 138) dX12_anew_132 (by decide) (fun c20 => ?_) (fun c20 => ?_)
      · refine sim_iinc (v := x5 + 1) (L' := [(5, .int (x5 + 1)), (0, .ref 75), (1, .int x1), (2, .int x2), (3, .int x3), (4, .int x4)]) 5 rfl rfl rfl (by decide) dX12_anew_138 ?_
        refine sim_goto (tgt := 107) dX12_anew_141 (by decide) ?_
        refine sim_sub [1, 2, 3, 4, 5, 0] rfl ?_
        exact hR (x5 + 1)
      · refine sim_bipush (v := -2) (by decide) dX12_anew_135 ?_
        exact sim_iret rfl rfl dX12_anew_137
theorem sX12_anew_l107 {K144 : Option Int32} {x1 : Int32} {x2 : Int32} {x3 : Int32} {x4 : Int32} {h : AH} (hK144 : Sim RX12 cX12_anew 7 (some .int) 3 (Option.map (pI h)) (K144) 144 [(0, .ref 75), (1, .int x1), (2, .int x2), (3, .int x3), (4, .int x4)] [] h) : ∀ (n : Nat) (x5 : Int32), Sim RX12 cX12_anew 7 (some .int) 3 (Option.map (pI h)) (fX12_anew_l107 K144 x1 x2 x3 x4 h n x5) 107 [(0, .ref 75), (1, .int x1), (2, .int x2), (3, .int x3), (4, .int x4), (5, .int x5)] [] h := by
  intro n
  induction n with
  | zero => intro x5; exact sim_none
  | succ n ih => intro x5; exact sX12_anew_l107b ih hK144 x5
def fX12_anew_l150b (rec : Int32 → Int32 → Option Int32) (K208 : Int32 → Option Int32) (x1 : Int32) (x2 : Int32) (x3 : Int32) (x4 : Int32) (h : AH) (x5 : Int32) (x6 : Int32) : Option Int32 :=
  if x4 < x6 then
    K208 x5
  else
    if (x6 &&& (x4 ^^^ (-1 : Int32))) = 0 then
      letT ((fX12_standOn x1 x6 h).bind (fun b24 =>
        if (b24 &&& x2) = 0 then
          rec x6 (x6 + 1)
        else
          rec x5 (x6 + 1))) (fun J23 =>
      if x5 = (-1 : Int32) then
        J23
      else
        (fX12_bits x6 h).bind (fun b28 =>
        (fX12_bits x5 h).bind (fun b30 =>
        if b28 < b30 then
          J23
        else
          rec x5 (x6 + 1))))
    else
      rec x5 (x6 + 1)
def fX12_anew_l150 (K208 : Int32 → Option Int32) (x1 : Int32) (x2 : Int32) (x3 : Int32) (x4 : Int32) (h : AH) : Nat → Int32 → Int32 → Option Int32
  | 0, _, _ => none
  | n + 1, x5, x6 => fX12_anew_l150b (fX12_anew_l150 K208 x1 x2 x3 x4 h n) K208 x1 x2 x3 x4 h x5 x6
theorem sX12_anew_l150b {rec : Int32 → Int32 → Option Int32} {K208 : Int32 → Option Int32} {x1 : Int32} {x2 : Int32} {x3 : Int32} {x4 : Int32} {h : AH} (hR : ∀ (x5 : Int32) (x6 : Int32), Sim RX12 cX12_anew 7 (some .int) 3 (Option.map (pI h)) (rec x5 x6) 150 [(0, .ref 75), (1, .int x1), (2, .int x2), (3, .int x3), (4, .int x4), (5, .int x5), (6, .int x6)] [] h) (hK208 : ∀ (y5 : Int32), Sim RX12 cX12_anew 7 (some .int) 3 (Option.map (pI h)) (K208 y5) 208 [(3, .int x3), (5, .int y5)] [] h) : ∀ (x5 : Int32) (x6 : Int32), Sim RX12 cX12_anew 7 (some .int) 3 (Option.map (pI h)) (fX12_anew_l150b rec K208 x1 x2 x3 x4 h x5 x6) 150 [(0, .ref 75), (1, .int x1), (2, .int x2), (3, .int x3), (4, .int x4), (5, .int x5), (6, .int x6)] [] h := by
  intro x5 x6
  unfold fX12_anew_l150b
  refine sim_iload 6 rfl dX12_anew_150 ?_
  refine sim_iload 4 rfl dX12_anew_152 ?_
  refine sim_icmp_gt (tgt := 208) dX12_anew_154 (by decide) (fun c21 => ?_) (fun c21 => ?_)
  · refine sim_sub [3, 5] rfl ?_
    exact hK208 x5
  · refine sim_iload 6 rfl dX12_anew_157 ?_
    refine sim_iload 4 rfl dX12_anew_159 ?_
    refine sim_iconst (v := -1) (by decide) dX12_anew_161 ?_
    refine sim_ixor dX12_anew_162 ?_
    refine sim_iand dX12_anew_163 ?_
    refine sim_if_ne (tgt := 202) dX12_anew_164 (by decide) (fun c22 => ?_) (fun c22 => ?_)
    · refine sim_iinc (v := x6 + 1) (L' := [(6, .int (x6 + 1)), (0, .ref 75), (1, .int x1), (2, .int x2), (3, .int x3), (4, .int x4), (5, .int x5)]) 6 rfl rfl rfl (by decide) dX12_anew_202 ?_
      refine sim_goto (tgt := 150) dX12_anew_205 (by decide) ?_
      refine sim_sub [1, 2, 3, 4, 5, 6, 0] rfl ?_
      exact hR x5 (x6 + 1)
    · refine sim_iload 5 rfl dX12_anew_167 ?_
      refine sim_iconst (v := -1) (by decide) dX12_anew_169 ?_
      refine sim_letJ (fun J23 => Sim RX12 cX12_anew 7 (some .int) 3 (Option.map (pI h)) (J23) 186 [(0, .ref 75), (1, .int x1), (2, .int x2), (3, .int x3), (4, .int x4), (5, .int x5), (6, .int x6)] [] h) (?_) (fun J23 hJ23 => ?_)
      · refine sim_aload_n 0 rfl dX12_anew_186 ?_
        refine sim_iload_n 1 rfl dX12_anew_187 ?_
        refine sim_iload 6 rfl dX12_anew_188 ?_
        refine sim_bind (fun b24 e25 => ?_)
        refine sim_cV (As := [.int x1, .int x6]) (st := []) (r := (some (.int b24))) (h1 := h) (okX12_standOn x1 x6 h b24 e25) (fun _ => rfl) mlX12_364 mtX12_standOn rfl rfl rfl rfl (Nat.le_of_ble_eq_true rfl) rfl (Nat.le_of_ble_eq_true rfl) dX12_anew_190 ?_
        refine sim_iload_n 2 rfl dX12_anew_193 ?_
        refine sim_iand dX12_anew_194 ?_
        refine sim_if_ne (tgt := 202) dX12_anew_195 (by decide) (fun c26 => ?_) (fun c26 => ?_)
        · refine sim_iinc (v := x6 + 1) (L' := [(6, .int (x6 + 1)), (0, .ref 75), (1, .int x1), (2, .int x2), (3, .int x3), (4, .int x4), (5, .int x5)]) 6 rfl rfl rfl (by decide) dX12_anew_202 ?_
          refine sim_goto (tgt := 150) dX12_anew_205 (by decide) ?_
          refine sim_sub [1, 2, 3, 4, 5, 6, 0] rfl ?_
          exact hR x5 (x6 + 1)
        · refine sim_iload 6 rfl dX12_anew_198 ?_
          refine sim_istore (L' := [(5, .int x6), (0, .ref 75), (1, .int x1), (2, .int x2), (3, .int x3), (4, .int x4), (6, .int x6)]) rfl (by decide) dX12_anew_200 ?_
          refine sim_iinc (v := x6 + 1) (L' := [(6, .int (x6 + 1)), (5, .int x6), (0, .ref 75), (1, .int x1), (2, .int x2), (3, .int x3), (4, .int x4)]) 6 rfl rfl rfl (by decide) dX12_anew_202 ?_
          refine sim_goto (tgt := 150) dX12_anew_205 (by decide) ?_
          refine sim_sub [2, 3, 4, 5, 6, 1, 0] rfl ?_
          exact hR x6 (x6 + 1)
      refine sim_icmp_eq (tgt := 186) dX12_anew_170 (by decide) (fun c27 => ?_) (fun c27 => ?_)
      · exact hJ23
      · refine sim_iload 6 rfl dX12_anew_173 ?_
        refine sim_bind (fun b28 e29 => ?_)
        refine sim_cS (As := [.int x6]) (st := []) (r := (some (.int b28))) (h1 := h) (okX12_bits x6 h b28 e29) (fun _ => rfl) mlX12_340 mtX12_bits rfl (Nat.le_of_ble_eq_true rfl) rfl (Nat.le_of_ble_eq_true rfl) dX12_anew_175 ?_
        refine sim_iload 5 rfl dX12_anew_178 ?_
        refine sim_bind (fun b30 e31 => ?_)
        refine sim_cS (As := [.int x5]) (st := [.int b28]) (r := (some (.int b30))) (h1 := h) (okX12_bits x5 h b30 e31) (fun _ => rfl) mlX12_340 mtX12_bits rfl (Nat.le_of_ble_eq_true rfl) rfl (Nat.le_of_ble_eq_true rfl) dX12_anew_180 ?_
        refine sim_icmp_ge (tgt := 202) dX12_anew_183 (by decide) (fun c32 => ?_) (fun c32 => ?_)
        · refine sim_iinc (v := x6 + 1) (L' := [(6, .int (x6 + 1)), (0, .ref 75), (1, .int x1), (2, .int x2), (3, .int x3), (4, .int x4), (5, .int x5)]) 6 rfl rfl rfl (by decide) dX12_anew_202 ?_
          refine sim_goto (tgt := 150) dX12_anew_205 (by decide) ?_
          refine sim_sub [1, 2, 3, 4, 5, 6, 0] rfl ?_
          exact hR x5 (x6 + 1)
        · exact hJ23
theorem sX12_anew_l150 {K208 : Int32 → Option Int32} {x1 : Int32} {x2 : Int32} {x3 : Int32} {x4 : Int32} {h : AH} (hK208 : ∀ (y5 : Int32), Sim RX12 cX12_anew 7 (some .int) 3 (Option.map (pI h)) (K208 y5) 208 [(3, .int x3), (5, .int y5)] [] h) : ∀ (n : Nat) (x5 : Int32) (x6 : Int32), Sim RX12 cX12_anew 7 (some .int) 3 (Option.map (pI h)) (fX12_anew_l150 K208 x1 x2 x3 x4 h n x5 x6) 150 [(0, .ref 75), (1, .int x1), (2, .int x2), (3, .int x3), (4, .int x4), (5, .int x5), (6, .int x6)] [] h := by
  intro n
  induction n with
  | zero => intro x5 x6; exact sim_none
  | succ n ih => intro x5 x6; exact sX12_anew_l150b ih hK208 x5 x6
def fX12_anew (p1 : Int32) (p2 : Int32) (p3 : Int32) (h : AH) : Option Int32 :=
  if (fX12_isLine p1 h) = 0 then
    some (-1 : Int32)
  else
    if p2 < 0 then
      some (-1 : Int32)
    else
      if (fX12_allLines h) < p2 then
        some (-1 : Int32)
      else
        if (fX12_has p2 p1 h) = 0 then
          if (fX12_in p3 (0 : Int32) (1 : Int32) h) = 0 then
            some (-1 : Int32)
          else
            fX12_anew_l45 (fun (y15 : Int32) =>
              fX12_anew_l107 (fX12_anew_l150 (fun (y33 : Int32) =>
                  if y33 = (-1 : Int32) then
                    some (-2 : Int32)
                  else
                    if p3 = 0 then
                      (fX12_bits y33 h).bind (fun b36 =>
                      some b36)
                    else
                      some y33) p1 p2 p3 y15 h fuel0 (-1 : Int32) (0 : Int32)) p1 p2 p3 y15 h fuel0 (0 : Int32)) p1 p2 p3 h fuel0 (0 : Int32) (0 : Int32)
        else
          some (-1 : Int32)
theorem sX12_anew (p1 : Int32) (p2 : Int32) (p3 : Int32) (h : AH) : Sim RX12 cX12_anew 7 (some .int) 3 (Option.map (pI h)) (fX12_anew p1 p2 p3 h) 0 [(0, .ref 75), (1, .int p1), (2, .int p2), (3, .int p3)] [] h := by
  unfold fX12_anew
  refine sim_aload_n 0 rfl dX12_anew_0 ?_
  refine sim_iload_n 1 rfl dX12_anew_1 ?_
  refine sim_cV (As := [.int p1]) (st := []) (r := (some (.int (fX12_isLine p1 h)))) (h1 := h) (okX12_isLine p1 h) (fun _ => rfl) mlX12_209 mtX12_isLine rfl rfl rfl rfl (Nat.le_of_ble_eq_true rfl) rfl (Nat.le_of_ble_eq_true rfl) dX12_anew_2 ?_
  refine sim_if_eq (tgt := 37) dX12_anew_5 (by decide) (fun c1 => ?_) (fun c1 => ?_)
  · refine sim_iconst (v := -1) (by decide) dX12_anew_37 ?_
    exact sim_iret rfl rfl dX12_anew_38
  · refine sim_iload_n 2 rfl dX12_anew_8 ?_
    refine sim_if_lt (tgt := 37) dX12_anew_9 (by decide) (fun c2 => ?_) (fun c2 => ?_)
    · refine sim_iconst (v := -1) (by decide) dX12_anew_37 ?_
      exact sim_iret rfl rfl dX12_anew_38
    · refine sim_iload_n 2 rfl dX12_anew_12 ?_
      refine sim_aload_n 0 rfl dX12_anew_13 ?_
      refine sim_cV (As := []) (st := [.int p2]) (r := (some (.int (fX12_allLines h)))) (h1 := h) (okX12_allLines h) (fun _ => rfl) mlX12_337 mtX12_allLines rfl rfl rfl rfl (Nat.le_of_ble_eq_true rfl) rfl (Nat.le_of_ble_eq_true rfl) dX12_anew_14 ?_
      refine sim_icmp_gt (tgt := 37) dX12_anew_17 (by decide) (fun c3 => ?_) (fun c3 => ?_)
      · refine sim_iconst (v := -1) (by decide) dX12_anew_37 ?_
        exact sim_iret rfl rfl dX12_anew_38
      · refine sim_iload_n 2 rfl dX12_anew_20 ?_
        refine sim_iload_n 1 rfl dX12_anew_21 ?_
        refine sim_cS (As := [.int p2, .int p1]) (st := []) (r := (some (.int (fX12_has p2 p1 h)))) (h1 := h) (okX12_has p2 p1 h) (fun _ => rfl) mlX12_327 mtX12_has rfl (Nat.le_of_ble_eq_true rfl) rfl (Nat.le_of_ble_eq_true rfl) dX12_anew_22 ?_
        refine sim_if_ne (tgt := 37) dX12_anew_25 (by decide) (fun c4 => ?_) (fun c4 => ?_)
        · refine sim_iconst (v := -1) (by decide) dX12_anew_37 ?_
          exact sim_iret rfl rfl dX12_anew_38
        · refine sim_iload_n 3 rfl dX12_anew_28 ?_
          refine sim_iconst (v := 0) (by decide) dX12_anew_29 ?_
          refine sim_iconst (v := 1) (by decide) dX12_anew_30 ?_
          refine sim_cS (As := [.int p3, .int (0 : Int32), .int (1 : Int32)]) (st := []) (r := (some (.int (fX12_in p3 (0 : Int32) (1 : Int32) h)))) (h1 := h) (okX12_in p3 (0 : Int32) (1 : Int32) h) (fun _ => rfl) mlX12_141 mtX12_in rfl (Nat.le_of_ble_eq_true rfl) rfl (Nat.le_of_ble_eq_true rfl) dX12_anew_31 ?_
          refine sim_if_ne (tgt := 39) dX12_anew_34 (by decide) (fun c5 => ?_) (fun c5 => ?_)
          · refine sim_iconst (v := 0) (by decide) dX12_anew_39 ?_
            refine sim_istore (L' := [(4, .int (0 : Int32)), (0, .ref 75), (1, .int p1), (2, .int p2), (3, .int p3)]) rfl (by decide) dX12_anew_40 ?_
            refine sim_iconst (v := 0) (by decide) dX12_anew_42 ?_
            refine sim_istore (L' := [(5, .int (0 : Int32)), (4, .int (0 : Int32)), (0, .ref 75), (1, .int p1), (2, .int p2), (3, .int p3)]) rfl (by decide) dX12_anew_43 ?_
            refine sim_sub [2, 3, 4, 5, 1, 0] rfl ?_
            refine sX12_anew_l45 (fun y15 => ?_) _ (0 : Int32) (0 : Int32)
            · refine sim_iconst (v := 0) (by decide) dX12_anew_104 ?_
              refine sim_istore (L' := [(5, .int (0 : Int32)), (0, .ref 75), (1, .int p1), (2, .int p2), (3, .int p3), (4, .int y15)]) rfl (by decide) dX12_anew_105 ?_
              refine sim_sub [1, 2, 3, 4, 5, 0] rfl ?_
              refine sX12_anew_l107 ?_ _ (0 : Int32)
              · refine sim_iconst (v := -1) (by decide) dX12_anew_144 ?_
                refine sim_istore (L' := [(5, .int (-1 : Int32)), (0, .ref 75), (1, .int p1), (2, .int p2), (3, .int p3), (4, .int y15)]) rfl (by decide) dX12_anew_145 ?_
                refine sim_iconst (v := 0) (by decide) dX12_anew_147 ?_
                refine sim_istore (L' := [(6, .int (0 : Int32)), (5, .int (-1 : Int32)), (0, .ref 75), (1, .int p1), (2, .int p2), (3, .int p3), (4, .int y15)]) rfl (by decide) dX12_anew_148 ?_
                refine sim_sub [2, 3, 4, 5, 6, 1, 0] rfl ?_
                refine sX12_anew_l150 (fun y33 => ?_) _ (-1 : Int32) (0 : Int32)
                · refine sim_iload 1 rfl dX12_anew_208 ?_
                  refine sim_iconst (v := -1) (by decide) dX12_anew_210 ?_
                  refine sim_icmp_ne (tgt := 219) dX12_anew_211 (by decide) (fun c34 => ?_) (fun c34 => ?_)
                  · refine sim_iload_n 0 rfl dX12_anew_219 ?_
                    refine sim_if_ne (tgt := 231) dX12_anew_220 (by decide) (fun c35 => ?_) (fun c35 => ?_)
                    · refine sim_iload 1 rfl dX12_anew_231 ?_
                      exact sim_iret rfl rfl dX12_anew_233
                    · refine sim_iload 1 rfl dX12_anew_223 ?_
                      refine sim_bind (fun b36 e37 => ?_)
                      refine sim_cS (As := [.int y33]) (st := []) (r := (some (.int b36))) (h1 := h) (okX12_bits y33 h b36 e37) (fun _ => rfl) mlX12_340 mtX12_bits rfl (Nat.le_of_ble_eq_true rfl) rfl (Nat.le_of_ble_eq_true rfl) dX12_anew_225 ?_
                      refine sim_goto (tgt := 233) dX12_anew_228 (by decide) ?_
                      exact sim_iret rfl rfl dX12_anew_233
                  · refine sim_bipush (v := -2) (by decide) dX12_anew_214 ?_
                    refine sim_goto (tgt := 233) dX12_anew_216 (by decide) ?_
                    exact sim_iret rfl rfl dX12_anew_233
          · refine sim_iconst (v := -1) (by decide) dX12_anew_37 ?_
            exact sim_iret rfl rfl dX12_anew_38
theorem okX12_anew (p1 : Int32) (p2 : Int32) (p3 : Int32) (h : AH) (b : Int32) (e : fX12_anew p1 p2 p3 h = some b) : Ok yX12_anew cX12_anew 7 (some .int) 3 [.ref 75, .int p1, .int p2, .int p3] h (some (.int b), h) := ok_of (sX12_anew p1 p2 p3 h) (by rw [e]; rfl) (by decide +kernel) (Nat.le_of_ble_eq_true rfl)
def fX12_addsShow_l2b (rec : Int32 → Option AH) (K27 : Option AH) (x1 : Int32) (h : AH) (x2 : Int32) : Option AH :=
  if x2 < (h.1 75 49) then
    if x2 < 0 ∨ 1940 ≤ x2.toNatClampNeg then none else
    if (h.1 105 x2.toNatClampNeg) = x1 then
      some h
    else
      rec (x2 + 1)
  else
    K27
def fX12_addsShow_l2 (K27 : Option AH) (x1 : Int32) (h : AH) : Nat → Int32 → Option AH
  | 0, _ => none
  | n + 1, x2 => fX12_addsShow_l2b (fX12_addsShow_l2 K27 x1 h n) K27 x1 h x2
theorem sX12_addsShow_l2b {rec : Int32 → Option AH} {K27 : Option AH} {x1 : Int32} {h : AH} (hR : ∀ (x2 : Int32), Sim RX12 cX12_addsShow 3 none 1 (Option.map oV) (rec x2) 2 [(0, .ref 75), (1, .int x1), (2, .int x2)] [] h) (hK27 : Sim RX12 cX12_addsShow 3 none 1 (Option.map oV) (K27) 27 [(0, .ref 75), (1, .int x1)] [] h) : ∀ (x2 : Int32), Sim RX12 cX12_addsShow 3 none 1 (Option.map oV) (fX12_addsShow_l2b rec K27 x1 h x2) 2 [(0, .ref 75), (1, .int x1), (2, .int x2)] [] h := by
  intro x2
  unfold fX12_addsShow_l2b
  refine sim_iload_n 2 rfl dX12_addsShow_2 ?_
  refine sim_aload_n 0 rfl dX12_addsShow_3 ?_
  refine sim_getI flX12_370 rfl rfl dX12_addsShow_4 ?_
  refine sim_icmp_ge (tgt := 27) dX12_addsShow_7 (by decide) (fun c1 => ?_) (fun c1 => ?_)
  · refine sim_sub [0, 1] rfl ?_
    exact hK27
  · refine sim_aload_n 0 rfl dX12_addsShow_10 ?_
    refine sim_getR flX12_98 rfl rfl dX12_addsShow_11 ?_
    refine sim_iload_n 2 rfl dX12_addsShow_14 ?_
    refine sim_nguard (fun c2 => ?_)
    refine sim_iald rfl c2 dX12_addsShow_15 ?_
    refine sim_iload_n 1 rfl dX12_addsShow_16 ?_
    refine sim_icmp_ne (tgt := 21) dX12_addsShow_17 (by decide) (fun c3 => ?_) (fun c3 => ?_)
    · refine sim_iinc (v := x2 + 1) (L' := [(2, .int (x2 + 1)), (0, .ref 75), (1, .int x1)]) 2 rfl rfl rfl (by decide) dX12_addsShow_21 ?_
      refine sim_goto (tgt := 2) dX12_addsShow_24 (by decide) ?_
      refine sim_sub [1, 2, 0] rfl ?_
      exact hR (x2 + 1)
    · exact sim_vret rfl rfl dX12_addsShow_20
theorem sX12_addsShow_l2 {K27 : Option AH} {x1 : Int32} {h : AH} (hK27 : Sim RX12 cX12_addsShow 3 none 1 (Option.map oV) (K27) 27 [(0, .ref 75), (1, .int x1)] [] h) : ∀ (n : Nat) (x2 : Int32), Sim RX12 cX12_addsShow 3 none 1 (Option.map oV) (fX12_addsShow_l2 K27 x1 h n x2) 2 [(0, .ref 75), (1, .int x1), (2, .int x2)] [] h := by
  intro n
  induction n with
  | zero => intro x2; exact sim_none
  | succ n ih => intro x2; exact sX12_addsShow_l2b ih hK27 x2
def fX12_addsShow (p1 : Int32) (h : AH) : Option AH :=
  fX12_addsShow_l2 (if (h.1 75 49) < 0 ∨ 1940 ≤ (h.1 75 49).toNatClampNeg then none else
    letT (sI h 105 (h.1 75 49).toNatClampNeg p1) (fun g5 =>
    letT (sI g5 75 49 ((g5.1 75 49) + (1 : Int32))) (fun g6 =>
    some g6))) p1 h fuel0 (0 : Int32)
theorem sX12_addsShow (p1 : Int32) (h : AH) : Sim RX12 cX12_addsShow 3 none 1 (Option.map oV) (fX12_addsShow p1 h) 0 [(0, .ref 75), (1, .int p1)] [] h := by
  unfold fX12_addsShow
  refine sim_iconst (v := 0) (by decide) dX12_addsShow_0 ?_
  refine sim_istore_n (L' := [(2, .int (0 : Int32)), (0, .ref 75), (1, .int p1)]) rfl (by decide) dX12_addsShow_1 ?_
  refine sim_sub [1, 2, 0] rfl ?_
  refine sX12_addsShow_l2 ?_ _ (0 : Int32)
  · refine sim_aload_n 0 rfl dX12_addsShow_27 ?_
    refine sim_getR flX12_98 rfl rfl dX12_addsShow_28 ?_
    refine sim_aload_n 0 rfl dX12_addsShow_31 ?_
    refine sim_getI flX12_370 rfl rfl dX12_addsShow_32 ?_
    refine sim_iload_n 1 rfl dX12_addsShow_35 ?_
    refine sim_nguard (fun c4 => ?_)
    refine sim_iast rfl c4 dX12_addsShow_36 ?_
    refine sim_nmH (fun g5 => ?_)
    refine sim_aload_n 0 rfl dX12_addsShow_37 ?_
    refine sim_aload_n 0 rfl dX12_addsShow_38 ?_
    refine sim_getI flX12_370 rfl rfl dX12_addsShow_39 ?_
    refine sim_iconst (v := 1) (by decide) dX12_addsShow_42 ?_
    refine sim_iadd dX12_addsShow_43 ?_
    refine sim_putI fpX12_370 rfl rfl rfl rfl dX12_addsShow_44 ?_
    refine sim_nmH (fun g6 => ?_)
    exact sim_vret rfl rfl dX12_addsShow_47
theorem okX12_addsShow (p1 : Int32) (h : AH) (b : AH) (e : fX12_addsShow p1 h = some b) : Ok yX12_addsShow cX12_addsShow 3 none 1 [.ref 75, .int p1] h (none, b) := ok_of (sX12_addsShow p1 h) (by rw [e]; rfl) (by decide +kernel) (Nat.le_of_ble_eq_true rfl)
def fX12_seesAll_l2b (rec : Int32 → Option Int32) (x1 : Int32) (h : AH) (x2 : Int32) : Option Int32 :=
  if x2 < (h.1 75 49) then
    if x2 < 0 ∨ 1940 ≤ x2.toNatClampNeg then none else
    if ((h.1 105 x2.toNatClampNeg) &&& x1) = 0 then
      some (0 : Int32)
    else
      rec (x2 + 1)
  else
    some (1 : Int32)
def fX12_seesAll_l2 (x1 : Int32) (h : AH) : Nat → Int32 → Option Int32
  | 0, _ => none
  | n + 1, x2 => fX12_seesAll_l2b (fX12_seesAll_l2 x1 h n) x1 h x2
theorem sX12_seesAll_l2b {rec : Int32 → Option Int32} {x1 : Int32} {h : AH} (hR : ∀ (x2 : Int32), Sim RX12 cX12_seesAll 3 (some .boolean) 1 (Option.map (pI h)) (rec x2) 2 [(0, .ref 75), (1, .int x1), (2, .int x2)] [] h) : ∀ (x2 : Int32), Sim RX12 cX12_seesAll 3 (some .boolean) 1 (Option.map (pI h)) (fX12_seesAll_l2b rec x1 h x2) 2 [(0, .ref 75), (1, .int x1), (2, .int x2)] [] h := by
  intro x2
  unfold fX12_seesAll_l2b
  refine sim_iload_n 2 rfl dX12_seesAll_2 ?_
  refine sim_aload_n 0 rfl dX12_seesAll_3 ?_
  refine sim_getI flX12_370 rfl rfl dX12_seesAll_4 ?_
  refine sim_icmp_ge (tgt := 29) dX12_seesAll_7 (by decide) (fun c1 => ?_) (fun c1 => ?_)
  · refine sim_iconst (v := 1) (by decide) dX12_seesAll_29 ?_
    exact sim_zret rfl rfl rfl dX12_seesAll_30
  · refine sim_aload_n 0 rfl dX12_seesAll_10 ?_
    refine sim_getR flX12_98 rfl rfl dX12_seesAll_11 ?_
    refine sim_iload_n 2 rfl dX12_seesAll_14 ?_
    refine sim_nguard (fun c2 => ?_)
    refine sim_iald rfl c2 dX12_seesAll_15 ?_
    refine sim_iload_n 1 rfl dX12_seesAll_16 ?_
    refine sim_iand dX12_seesAll_17 ?_
    refine sim_if_ne (tgt := 23) dX12_seesAll_18 (by decide) (fun c3 => ?_) (fun c3 => ?_)
    · refine sim_iinc (v := x2 + 1) (L' := [(2, .int (x2 + 1)), (0, .ref 75), (1, .int x1)]) 2 rfl rfl rfl (by decide) dX12_seesAll_23 ?_
      refine sim_goto (tgt := 2) dX12_seesAll_26 (by decide) ?_
      refine sim_sub [1, 2, 0] rfl ?_
      exact hR (x2 + 1)
    · refine sim_iconst (v := 0) (by decide) dX12_seesAll_21 ?_
      exact sim_zret rfl rfl rfl dX12_seesAll_22
theorem sX12_seesAll_l2 {x1 : Int32} {h : AH} : ∀ (n : Nat) (x2 : Int32), Sim RX12 cX12_seesAll 3 (some .boolean) 1 (Option.map (pI h)) (fX12_seesAll_l2 x1 h n x2) 2 [(0, .ref 75), (1, .int x1), (2, .int x2)] [] h := by
  intro n
  induction n with
  | zero => intro x2; exact sim_none
  | succ n ih => intro x2; exact sX12_seesAll_l2b ih x2
def fX12_seesAll (p1 : Int32) (h : AH) : Option Int32 :=
  fX12_seesAll_l2 p1 h fuel0 (0 : Int32)
theorem sX12_seesAll (p1 : Int32) (h : AH) : Sim RX12 cX12_seesAll 3 (some .boolean) 1 (Option.map (pI h)) (fX12_seesAll p1 h) 0 [(0, .ref 75), (1, .int p1)] [] h := by
  unfold fX12_seesAll
  refine sim_iconst (v := 0) (by decide) dX12_seesAll_0 ?_
  refine sim_istore_n (L' := [(2, .int (0 : Int32)), (0, .ref 75), (1, .int p1)]) rfl (by decide) dX12_seesAll_1 ?_
  refine sim_sub [1, 2, 0] rfl ?_
  refine sX12_seesAll_l2 _ (0 : Int32)
theorem okX12_seesAll (p1 : Int32) (h : AH) (b : Int32) (e : fX12_seesAll p1 h = some b) : Ok yX12_seesAll cX12_seesAll 3 (some .boolean) 1 [.ref 75, .int p1] h (some (.int b), h) := ok_of (sX12_seesAll p1 h) (by rw [e]; rfl) (by decide +kernel) (Nat.le_of_ble_eq_true rfl)
def fX12_added_l80b (rec : Int32 → Int32 → Option (Int32 × AH)) (K121 : Int32 → Option (Int32 × AH)) (x1 : Int32) (x2 : Int32) (x3 : Int32) (h : AH) (x4 : Int32) (x5 : Int32) : Option (Int32 × AH) :=
  if x5 < (h.1 75 2) then
    if x5 < 0 ∨ 20 ≤ x5.toNatClampNeg then none else
    if x5 < 0 ∨ 20 ≤ x5.toNatClampNeg then none else
    if (h.1 88 x5.toNatClampNeg) = (h.1 87 x5.toNatClampNeg) then
      rec x4 (x5 + 1)
    else
      letT (x4 ||| (jshl (1 : Int32) x5)) (fun v16 =>
      rec v16 (x5 + 1))
  else
    K121 x4
def fX12_added_l80 (K121 : Int32 → Option (Int32 × AH)) (x1 : Int32) (x2 : Int32) (x3 : Int32) (h : AH) : Nat → Int32 → Int32 → Option (Int32 × AH)
  | 0, _, _ => none
  | n + 1, x4, x5 => fX12_added_l80b (fX12_added_l80 K121 x1 x2 x3 h n) K121 x1 x2 x3 h x4 x5
theorem sX12_added_l80b {rec : Int32 → Int32 → Option (Int32 × AH)} {K121 : Int32 → Option (Int32 × AH)} {x1 : Int32} {x2 : Int32} {x3 : Int32} {h : AH} (hR : ∀ (x4 : Int32) (x5 : Int32), Sim RX12 cX12_added 6 (some .int) 3 (Option.map oI) (rec x4 x5) 80 [(0, .ref 75), (1, .int x1), (2, .int x2), (3, .int x3), (4, .int x4), (5, .int x5)] [] h) (hK121 : ∀ (y4 : Int32), Sim RX12 cX12_added 6 (some .int) 3 (Option.map oI) (K121 y4) 121 [(0, .ref 75), (1, .int x1), (2, .int x2), (3, .int x3), (4, .int y4)] [] h) : ∀ (x4 : Int32) (x5 : Int32), Sim RX12 cX12_added 6 (some .int) 3 (Option.map oI) (fX12_added_l80b rec K121 x1 x2 x3 h x4 x5) 80 [(0, .ref 75), (1, .int x1), (2, .int x2), (3, .int x3), (4, .int x4), (5, .int x5)] [] h := by
  intro x4 x5
  unfold fX12_added_l80b
  refine sim_iload 5 rfl dX12_added_80 ?_
  refine sim_aload_n 0 rfl dX12_added_82 ?_
  refine sim_getI flX12_145 rfl rfl dX12_added_83 ?_
  refine sim_icmp_ge (tgt := 121) dX12_added_86 (by decide) (fun c12 => ?_) (fun c12 => ?_)
  · refine sim_sub [0, 1, 2, 3, 4] rfl ?_
    exact hK121 x4
  · refine sim_aload_n 0 rfl dX12_added_89 ?_
    refine sim_getR flX12_47 rfl rfl dX12_added_90 ?_
    refine sim_iload 5 rfl dX12_added_93 ?_
    refine sim_nguard (fun c13 => ?_)
    refine sim_iald rfl c13 dX12_added_95 ?_
    refine sim_aload_n 0 rfl dX12_added_96 ?_
    refine sim_getR flX12_44 rfl rfl dX12_added_97 ?_
    refine sim_iload 5 rfl dX12_added_100 ?_
    refine sim_nguard (fun c14 => ?_)
    refine sim_iald rfl c14 dX12_added_102 ?_
    refine sim_icmp_eq (tgt := 115) dX12_added_103 (by decide) (fun c15 => ?_) (fun c15 => ?_)
    · refine sim_iinc (v := x5 + 1) (L' := [(5, .int (x5 + 1)), (0, .ref 75), (1, .int x1), (2, .int x2), (3, .int x3), (4, .int x4)]) 5 rfl rfl rfl (by decide) dX12_added_115 ?_
      refine sim_goto (tgt := 80) dX12_added_118 (by decide) ?_
      refine sim_sub [1, 2, 3, 4, 5, 0] rfl ?_
      exact hR x4 (x5 + 1)
    · refine sim_iload 4 rfl dX12_added_106 ?_
      refine sim_iconst (v := 1) (by decide) dX12_added_108 ?_
      refine sim_iload 5 rfl dX12_added_109 ?_
      refine sim_ishl dX12_added_111 ?_
      refine sim_ior dX12_added_112 ?_
      refine sim_nmI (fun v16 => ?_)
      refine sim_istore (L' := [(4, .int v16), (0, .ref 75), (1, .int x1), (2, .int x2), (3, .int x3), (5, .int x5)]) rfl (by decide) dX12_added_113 ?_
      refine sim_iinc (v := x5 + 1) (L' := [(5, .int (x5 + 1)), (4, .int v16), (0, .ref 75), (1, .int x1), (2, .int x2), (3, .int x3)]) 5 rfl rfl rfl (by decide) dX12_added_115 ?_
      refine sim_goto (tgt := 80) dX12_added_118 (by decide) ?_
      refine sim_sub [2, 3, 4, 5, 1, 0] rfl ?_
      exact hR v16 (x5 + 1)
theorem sX12_added_l80 {K121 : Int32 → Option (Int32 × AH)} {x1 : Int32} {x2 : Int32} {x3 : Int32} {h : AH} (hK121 : ∀ (y4 : Int32), Sim RX12 cX12_added 6 (some .int) 3 (Option.map oI) (K121 y4) 121 [(0, .ref 75), (1, .int x1), (2, .int x2), (3, .int x3), (4, .int y4)] [] h) : ∀ (n : Nat) (x4 : Int32) (x5 : Int32), Sim RX12 cX12_added 6 (some .int) 3 (Option.map oI) (fX12_added_l80 K121 x1 x2 x3 h n x4 x5) 80 [(0, .ref 75), (1, .int x1), (2, .int x2), (3, .int x3), (4, .int x4), (5, .int x5)] [] h := by
  intro n
  induction n with
  | zero => intro x4 x5; exact sim_none
  | succ n ih => intro x4 x5; exact sX12_added_l80b ih hK121 x4 x5
def fX12_added_l39b (rec : Int32 → AH → Option (Int32 × AH)) (K147 : AH → Option (Int32 × AH)) (x1 : Int32) (x2 : Int32) (x3 : Int32) (h : AH) : Option (Int32 × AH) :=
  if x3 < (h.1 75 0) then
    if x2 < 0 ∨ 20 ≤ x2.toNatClampNeg then none else
    if x3 = (h.1 87 x2.toNatClampNeg) then
      rec (x3 + 1) h
    else
      (fX12_slips 87 88 x2 x3 h).bind (fun b10 =>
      fX12_added_l80 (fun (y17 : Int32) =>
        if (fX12_has y17 ((b10.1 75 2) - (1 : Int32)) b10) = 0 then
          (fX12_addsShow y17 b10).bind (fun b19 =>
          rec (x3 + 1) b19)
        else
          rec (x3 + 1) b10) x1 x2 x3 b10 fuel0 (0 : Int32) (0 : Int32))
  else
    K147 h
def fX12_added_l39 (K147 : AH → Option (Int32 × AH)) (x1 : Int32) (x2 : Int32) : Nat → Int32 → AH → Option (Int32 × AH)
  | 0, _, _ => none
  | n + 1, x3, h => fX12_added_l39b (fX12_added_l39 K147 x1 x2 n) K147 x1 x2 x3 h
theorem sX12_added_l39b {rec : Int32 → AH → Option (Int32 × AH)} {K147 : AH → Option (Int32 × AH)} {x1 : Int32} {x2 : Int32} (hR : ∀ (x3 : Int32) (h : AH), Sim RX12 cX12_added 6 (some .int) 3 (Option.map oI) (rec x3 h) 39 [(0, .ref 75), (1, .int x1), (2, .int x2), (3, .int x3)] [] h) (hK147 : ∀ (g : AH), Sim RX12 cX12_added 6 (some .int) 3 (Option.map oI) (K147 g) 147 [(0, .ref 75), (1, .int x1), (2, .int x2)] [] g) : ∀ (x3 : Int32) (h : AH), Sim RX12 cX12_added 6 (some .int) 3 (Option.map oI) (fX12_added_l39b rec K147 x1 x2 x3 h) 39 [(0, .ref 75), (1, .int x1), (2, .int x2), (3, .int x3)] [] h := by
  intro x3 h
  unfold fX12_added_l39b
  refine sim_iload_n 3 rfl dX12_added_39 ?_
  refine sim_aload_n 0 rfl dX12_added_40 ?_
  refine sim_getI flX12_134 rfl rfl dX12_added_41 ?_
  refine sim_icmp_ge (tgt := 147) dX12_added_44 (by decide) (fun c7 => ?_) (fun c7 => ?_)
  · refine sim_sub [0, 1, 2] rfl ?_
    exact hK147 h
  · refine sim_iload_n 3 rfl dX12_added_47 ?_
    refine sim_aload_n 0 rfl dX12_added_48 ?_
    refine sim_getR flX12_44 rfl rfl dX12_added_49 ?_
    refine sim_iload_n 2 rfl dX12_added_52 ?_
    refine sim_nguard (fun c8 => ?_)
    refine sim_iald rfl c8 dX12_added_53 ?_
    refine sim_icmp_ne (tgt := 60) dX12_added_54 (by decide) (fun c9 => ?_) (fun c9 => ?_)
    · refine sim_aload_n 0 rfl dX12_added_60 ?_
      refine sim_aload_n 0 rfl dX12_added_61 ?_
      refine sim_getR flX12_44 rfl rfl dX12_added_62 ?_
      refine sim_aload_n 0 rfl dX12_added_65 ?_
      refine sim_getR flX12_47 rfl rfl dX12_added_66 ?_
      refine sim_iload_n 2 rfl dX12_added_69 ?_
      refine sim_iload_n 3 rfl dX12_added_70 ?_
      refine sim_bind (fun b10 e11 => ?_)
      refine sim_cV (As := [.ref 87, .ref 88, .int x2, .int x3]) (st := []) (r := none) (h1 := b10) (okX12_slips 87 rfl 88 rfl x2 x3 h b10 e11) (fun _ => rfl) mlX12_228 mtX12_slips rfl rfl rfl rfl (Nat.le_of_ble_eq_true rfl) rfl (Nat.le_of_ble_eq_true rfl) dX12_added_71 ?_
      refine sim_iconst (v := 0) (by decide) dX12_added_74 ?_
      refine sim_istore (L' := [(4, .int (0 : Int32)), (0, .ref 75), (1, .int x1), (2, .int x2), (3, .int x3)]) rfl (by decide) dX12_added_75 ?_
      refine sim_iconst (v := 0) (by decide) dX12_added_77 ?_
      refine sim_istore (L' := [(5, .int (0 : Int32)), (4, .int (0 : Int32)), (0, .ref 75), (1, .int x1), (2, .int x2), (3, .int x3)]) rfl (by decide) dX12_added_78 ?_
      refine sim_sub [2, 3, 4, 5, 1, 0] rfl ?_
      refine sX12_added_l80 (fun y17 => ?_) _ (0 : Int32) (0 : Int32)
      · refine sim_iload 4 rfl dX12_added_121 ?_
        refine sim_aload_n 0 rfl dX12_added_123 ?_
        refine sim_getI flX12_145 rfl rfl dX12_added_124 ?_
        refine sim_iconst (v := 1) (by decide) dX12_added_127 ?_
        refine sim_isub dX12_added_128 ?_
        refine sim_cS (As := [.int y17, .int ((b10.1 75 2) - (1 : Int32))]) (st := []) (r := (some (.int (fX12_has y17 ((b10.1 75 2) - (1 : Int32)) b10)))) (h1 := b10) (okX12_has y17 ((b10.1 75 2) - (1 : Int32)) b10) (fun _ => rfl) mlX12_327 mtX12_has rfl (Nat.le_of_ble_eq_true rfl) rfl (Nat.le_of_ble_eq_true rfl) dX12_added_129 ?_
        refine sim_if_ne (tgt := 141) dX12_added_132 (by decide) (fun c18 => ?_) (fun c18 => ?_)
        · refine sim_iinc (v := x3 + 1) (L' := [(3, .int (x3 + 1)), (0, .ref 75), (1, .int x1), (2, .int x2), (4, .int y17)]) 3 rfl rfl rfl (by decide) dX12_added_141 ?_
          refine sim_goto (tgt := 39) dX12_added_144 (by decide) ?_
          refine sim_sub [1, 2, 3, 0] rfl ?_
          exact hR (x3 + 1) b10
        · refine sim_aload_n 0 rfl dX12_added_135 ?_
          refine sim_iload 4 rfl dX12_added_136 ?_
          refine sim_bind (fun b19 e20 => ?_)
          refine sim_cV (As := [.int y17]) (st := []) (r := none) (h1 := b19) (okX12_addsShow y17 b10 b19 e20) (fun _ => rfl) mlX12_373 mtX12_addsShow rfl rfl rfl rfl (Nat.le_of_ble_eq_true rfl) rfl (Nat.le_of_ble_eq_true rfl) dX12_added_138 ?_
          refine sim_iinc (v := x3 + 1) (L' := [(3, .int (x3 + 1)), (0, .ref 75), (1, .int x1), (2, .int x2), (4, .int y17)]) 3 rfl rfl rfl (by decide) dX12_added_141 ?_
          refine sim_goto (tgt := 39) dX12_added_144 (by decide) ?_
          refine sim_sub [1, 2, 3, 0] rfl ?_
          exact hR (x3 + 1) b19
    · refine sim_goto (tgt := 141) dX12_added_57 (by decide) ?_
      refine sim_iinc (v := x3 + 1) (L' := [(3, .int (x3 + 1)), (0, .ref 75), (1, .int x1), (2, .int x2)]) 3 rfl rfl rfl (by decide) dX12_added_141 ?_
      refine sim_goto (tgt := 39) dX12_added_144 (by decide) ?_
      refine sim_sub [1, 2, 3, 0] rfl ?_
      exact hR (x3 + 1) h
theorem sX12_added_l39 {K147 : AH → Option (Int32 × AH)} {x1 : Int32} {x2 : Int32} (hK147 : ∀ (g : AH), Sim RX12 cX12_added 6 (some .int) 3 (Option.map oI) (K147 g) 147 [(0, .ref 75), (1, .int x1), (2, .int x2)] [] g) : ∀ (n : Nat) (x3 : Int32) (h : AH), Sim RX12 cX12_added 6 (some .int) 3 (Option.map oI) (fX12_added_l39 K147 x1 x2 n x3 h) 39 [(0, .ref 75), (1, .int x1), (2, .int x2), (3, .int x3)] [] h := by
  intro n
  induction n with
  | zero => intro x3 h; exact sim_none
  | succ n ih => intro x3 h; exact sX12_added_l39b ih hK147 x3 h
def fX12_added_l29b (rec : Int32 → AH → Option (Int32 × AH)) (K153 : AH → Option (Int32 × AH)) (x1 : Int32) (x2 : Int32) (h : AH) : Option (Int32 × AH) :=
  if x2 < (h.1 75 2) then
    fX12_added_l39 (fun (g21 : AH) =>
      rec (x2 + 1) g21) x1 x2 fuel0 (0 : Int32) h
  else
    K153 h
def fX12_added_l29 (K153 : AH → Option (Int32 × AH)) (x1 : Int32) : Nat → Int32 → AH → Option (Int32 × AH)
  | 0, _, _ => none
  | n + 1, x2, h => fX12_added_l29b (fX12_added_l29 K153 x1 n) K153 x1 x2 h
theorem sX12_added_l29b {rec : Int32 → AH → Option (Int32 × AH)} {K153 : AH → Option (Int32 × AH)} {x1 : Int32} (hR : ∀ (x2 : Int32) (h : AH), Sim RX12 cX12_added 6 (some .int) 3 (Option.map oI) (rec x2 h) 29 [(0, .ref 75), (1, .int x1), (2, .int x2)] [] h) (hK153 : ∀ (g : AH), Sim RX12 cX12_added 6 (some .int) 3 (Option.map oI) (K153 g) 153 [(0, .ref 75), (1, .int x1)] [] g) : ∀ (x2 : Int32) (h : AH), Sim RX12 cX12_added 6 (some .int) 3 (Option.map oI) (fX12_added_l29b rec K153 x1 x2 h) 29 [(0, .ref 75), (1, .int x1), (2, .int x2)] [] h := by
  intro x2 h
  unfold fX12_added_l29b
  refine sim_iload_n 2 rfl dX12_added_29 ?_
  refine sim_aload_n 0 rfl dX12_added_30 ?_
  refine sim_getI flX12_145 rfl rfl dX12_added_31 ?_
  refine sim_icmp_ge (tgt := 153) dX12_added_34 (by decide) (fun c6 => ?_) (fun c6 => ?_)
  · refine sim_sub [0, 1] rfl ?_
    exact hK153 h
  · refine sim_iconst (v := 0) (by decide) dX12_added_37 ?_
    refine sim_istore_n (L' := [(3, .int (0 : Int32)), (0, .ref 75), (1, .int x1), (2, .int x2)]) rfl (by decide) dX12_added_38 ?_
    refine sim_sub [1, 2, 3, 0] rfl ?_
    refine sX12_added_l39 (fun g21 => ?_) _ (0 : Int32) h
    · refine sim_iinc (v := x2 + 1) (L' := [(2, .int (x2 + 1)), (0, .ref 75), (1, .int x1)]) 2 rfl rfl rfl (by decide) dX12_added_147 ?_
      refine sim_goto (tgt := 29) dX12_added_150 (by decide) ?_
      refine sim_sub [1, 2, 0] rfl ?_
      exact hR (x2 + 1) g21
theorem sX12_added_l29 {K153 : AH → Option (Int32 × AH)} {x1 : Int32} (hK153 : ∀ (g : AH), Sim RX12 cX12_added 6 (some .int) 3 (Option.map oI) (K153 g) 153 [(0, .ref 75), (1, .int x1)] [] g) : ∀ (n : Nat) (x2 : Int32) (h : AH), Sim RX12 cX12_added 6 (some .int) 3 (Option.map oI) (fX12_added_l29 K153 x1 n x2 h) 29 [(0, .ref 75), (1, .int x1), (2, .int x2)] [] h := by
  intro n
  induction n with
  | zero => intro x2 h; exact sim_none
  | succ n ih => intro x2 h; exact sX12_added_l29b ih hK153 x2 h
def fX12_added_l162b (rec : Int32 → Int32 → Int32 → Option (Int32 × AH)) (K207 : Int32 → Int32 → Option (Int32 × AH)) (x1 : Int32) (h : AH) (x2 : Int32) (x3 : Int32) (x4 : Int32) : Option (Int32 × AH) :=
  if (fX12_allLines h) < x4 then
    K207 x2 x3
  else
    (fX12_bits x4 h).bind (fun b24 =>
    if b24 < x3 then
      (fX12_seesAll x4 h).bind (fun b27 =>
      if b27 = 0 then
        rec x2 x3 (x4 + 1)
      else
        (fX12_bits x4 h).bind (fun b30 =>
        rec x4 b30 (x4 + 1)))
    else
      rec x2 x3 (x4 + 1))
def fX12_added_l162 (K207 : Int32 → Int32 → Option (Int32 × AH)) (x1 : Int32) (h : AH) : Nat → Int32 → Int32 → Int32 → Option (Int32 × AH)
  | 0, _, _, _ => none
  | n + 1, x2, x3, x4 => fX12_added_l162b (fX12_added_l162 K207 x1 h n) K207 x1 h x2 x3 x4
theorem sX12_added_l162b {rec : Int32 → Int32 → Int32 → Option (Int32 × AH)} {K207 : Int32 → Int32 → Option (Int32 × AH)} {x1 : Int32} {h : AH} (hR : ∀ (x2 : Int32) (x3 : Int32) (x4 : Int32), Sim RX12 cX12_added 6 (some .int) 3 (Option.map oI) (rec x2 x3 x4) 162 [(0, .ref 75), (1, .int x1), (2, .int x2), (3, .int x3), (4, .int x4)] [] h) (hK207 : ∀ (y2 : Int32) (y3 : Int32), Sim RX12 cX12_added 6 (some .int) 3 (Option.map oI) (K207 y2 y3) 207 [(1, .int x1), (2, .int y2), (3, .int y3)] [] h) : ∀ (x2 : Int32) (x3 : Int32) (x4 : Int32), Sim RX12 cX12_added 6 (some .int) 3 (Option.map oI) (fX12_added_l162b rec K207 x1 h x2 x3 x4) 162 [(0, .ref 75), (1, .int x1), (2, .int x2), (3, .int x3), (4, .int x4)] [] h := by
  intro x2 x3 x4
  unfold fX12_added_l162b
  refine sim_iload 4 rfl dX12_added_162 ?_
  refine sim_aload_n 0 rfl dX12_added_164 ?_
  refine sim_cV (As := []) (st := [.int x4]) (r := (some (.int (fX12_allLines h)))) (h1 := h) (okX12_allLines h) (fun _ => rfl) mlX12_337 mtX12_allLines rfl rfl rfl rfl (Nat.le_of_ble_eq_true rfl) rfl (Nat.le_of_ble_eq_true rfl) dX12_added_165 ?_
  refine sim_icmp_gt (tgt := 207) dX12_added_168 (by decide) (fun c23 => ?_) (fun c23 => ?_)
  · refine sim_sub [1, 2, 3] rfl ?_
    exact hK207 x2 x3
  · refine sim_iload 4 rfl dX12_added_171 ?_
    refine sim_bind (fun b24 e25 => ?_)
    refine sim_cS (As := [.int x4]) (st := []) (r := (some (.int b24))) (h1 := h) (okX12_bits x4 h b24 e25) (fun _ => rfl) mlX12_340 mtX12_bits rfl (Nat.le_of_ble_eq_true rfl) rfl (Nat.le_of_ble_eq_true rfl) dX12_added_173 ?_
    refine sim_iload_n 3 rfl dX12_added_176 ?_
    refine sim_icmp_ge (tgt := 201) dX12_added_177 (by decide) (fun c26 => ?_) (fun c26 => ?_)
    · refine sim_iinc (v := x4 + 1) (L' := [(4, .int (x4 + 1)), (0, .ref 75), (1, .int x1), (2, .int x2), (3, .int x3)]) 4 rfl rfl rfl (by decide) dX12_added_201 ?_
      refine sim_goto (tgt := 162) dX12_added_204 (by decide) ?_
      refine sim_sub [1, 2, 3, 4, 0] rfl ?_
      exact hR x2 x3 (x4 + 1)
    · refine sim_aload_n 0 rfl dX12_added_180 ?_
      refine sim_iload 4 rfl dX12_added_181 ?_
      refine sim_bind (fun b27 e28 => ?_)
      refine sim_cV (As := [.int x4]) (st := []) (r := (some (.int b27))) (h1 := h) (okX12_seesAll x4 h b27 e28) (fun _ => rfl) mlX12_376 mtX12_seesAll rfl rfl rfl rfl (Nat.le_of_ble_eq_true rfl) rfl (Nat.le_of_ble_eq_true rfl) dX12_added_183 ?_
      refine sim_if_ne (tgt := 192) dX12_added_186 (by decide) (fun c29 => ?_) (fun c29 => ?_)
      · refine sim_iload 4 rfl dX12_added_192 ?_
        refine sim_istore_n (L' := [(2, .int x4), (0, .ref 75), (1, .int x1), (3, .int x3), (4, .int x4)]) rfl (by decide) dX12_added_194 ?_
        refine sim_iload 4 rfl dX12_added_195 ?_
        refine sim_bind (fun b30 e31 => ?_)
        refine sim_cS (As := [.int x4]) (st := []) (r := (some (.int b30))) (h1 := h) (okX12_bits x4 h b30 e31) (fun _ => rfl) mlX12_340 mtX12_bits rfl (Nat.le_of_ble_eq_true rfl) rfl (Nat.le_of_ble_eq_true rfl) dX12_added_197 ?_
        refine sim_istore_n (L' := [(3, .int b30), (2, .int x4), (0, .ref 75), (1, .int x1), (4, .int x4)]) rfl (by decide) dX12_added_200 ?_
        refine sim_iinc (v := x4 + 1) (L' := [(4, .int (x4 + 1)), (3, .int b30), (2, .int x4), (0, .ref 75), (1, .int x1)]) 4 rfl rfl rfl (by decide) dX12_added_201 ?_
        refine sim_goto (tgt := 162) dX12_added_204 (by decide) ?_
        refine sim_sub [3, 4, 2, 1, 0] rfl ?_
        exact hR x4 b30 (x4 + 1)
      · refine sim_goto (tgt := 201) dX12_added_189 (by decide) ?_
        refine sim_iinc (v := x4 + 1) (L' := [(4, .int (x4 + 1)), (0, .ref 75), (1, .int x1), (2, .int x2), (3, .int x3)]) 4 rfl rfl rfl (by decide) dX12_added_201 ?_
        refine sim_goto (tgt := 162) dX12_added_204 (by decide) ?_
        refine sim_sub [1, 2, 3, 4, 0] rfl ?_
        exact hR x2 x3 (x4 + 1)
theorem sX12_added_l162 {K207 : Int32 → Int32 → Option (Int32 × AH)} {x1 : Int32} {h : AH} (hK207 : ∀ (y2 : Int32) (y3 : Int32), Sim RX12 cX12_added 6 (some .int) 3 (Option.map oI) (K207 y2 y3) 207 [(1, .int x1), (2, .int y2), (3, .int y3)] [] h) : ∀ (n : Nat) (x2 : Int32) (x3 : Int32) (x4 : Int32), Sim RX12 cX12_added 6 (some .int) 3 (Option.map oI) (fX12_added_l162 K207 x1 h n x2 x3 x4) 162 [(0, .ref 75), (1, .int x1), (2, .int x2), (3, .int x3), (4, .int x4)] [] h := by
  intro n
  induction n with
  | zero => intro x2 x3 x4; exact sim_none
  | succ n ih => intro x2 x3 x4; exact sX12_added_l162b ih hK207 x2 x3 x4
def fX12_added (p1 : Int32) (h : AH) : Option (Int32 × AH) :=
  if (fX12_in p1 (0 : Int32) (1 : Int32) h) = 0 then
    some ((-1 : Int32), h)
  else
    if (h.1 75 2) = 0 then
      some ((-1 : Int32), h)
    else
      (fX12_laysTruth h).bind (fun b3 =>
      letT (sI b3 75 49 (0 : Int32)) (fun g5 =>
      fX12_added_l29 (fun (g22 : AH) =>
        fX12_added_l162 (fun (y32 : Int32) (y33 : Int32) =>
          if p1 = 0 then
            some (y33, g22)
          else
            some (y32, g22)) p1 g22 fuel0 (-1 : Int32) (1000000000 : Int32) (0 : Int32)) p1 fuel0 (0 : Int32) g5))
theorem sX12_added (p1 : Int32) (h : AH) : Sim RX12 cX12_added 6 (some .int) 3 (Option.map oI) (fX12_added p1 h) 0 [(0, .ref 75), (1, .int p1)] [] h := by
  unfold fX12_added
  refine sim_iload_n 1 rfl dX12_added_0 ?_
  refine sim_iconst (v := 0) (by decide) dX12_added_1 ?_
  refine sim_iconst (v := 1) (by decide) dX12_added_2 ?_
  refine sim_cS (As := [.int p1, .int (0 : Int32), .int (1 : Int32)]) (st := []) (r := (some (.int (fX12_in p1 (0 : Int32) (1 : Int32) h)))) (h1 := h) (okX12_in p1 (0 : Int32) (1 : Int32) h) (fun _ => rfl) mlX12_141 mtX12_in rfl (Nat.le_of_ble_eq_true rfl) rfl (Nat.le_of_ble_eq_true rfl) dX12_added_3 ?_
  refine sim_if_eq (tgt := 16) dX12_added_6 (by decide) (fun c1 => ?_) (fun c1 => ?_)
  · refine sim_iconst (v := -1) (by decide) dX12_added_16 ?_
    exact sim_iret rfl rfl dX12_added_17
  · refine sim_aload_n 0 rfl dX12_added_9 ?_
    refine sim_getI flX12_145 rfl rfl dX12_added_10 ?_
    refine sim_if_ne (tgt := 18) dX12_added_13 (by decide) (fun c2 => ?_) (fun c2 => ?_)
    · refine sim_aload_n 0 rfl dX12_added_18 ?_
      refine sim_bind (fun b3 e4 => ?_)
      refine sim_cV (As := []) (st := []) (r := none) (h1 := b3) (okX12_laysTruth h b3 e4) (fun _ => rfl) mlX12_212 mtX12_laysTruth rfl rfl rfl rfl (Nat.le_of_ble_eq_true rfl) rfl (Nat.le_of_ble_eq_true rfl) dX12_added_19 ?_
      refine sim_aload_n 0 rfl dX12_added_22 ?_
      refine sim_iconst (v := 0) (by decide) dX12_added_23 ?_
      refine sim_putI fpX12_370 rfl rfl rfl rfl dX12_added_24 ?_
      refine sim_nmH (fun g5 => ?_)
      refine sim_iconst (v := 0) (by decide) dX12_added_27 ?_
      refine sim_istore_n (L' := [(2, .int (0 : Int32)), (0, .ref 75), (1, .int p1)]) rfl (by decide) dX12_added_28 ?_
      refine sim_sub [1, 2, 0] rfl ?_
      refine sX12_added_l29 (fun g22 => ?_) _ (0 : Int32) g5
      · refine sim_iconst (v := -1) (by decide) dX12_added_153 ?_
        refine sim_istore_n (L' := [(2, .int (-1 : Int32)), (0, .ref 75), (1, .int p1)]) rfl (by decide) dX12_added_154 ?_
        refine sim_ldcw kcX12_333 dX12_added_155 ?_
        refine sim_istore_n (L' := [(3, .int (1000000000 : Int32)), (2, .int (-1 : Int32)), (0, .ref 75), (1, .int p1)]) rfl (by decide) dX12_added_158 ?_
        refine sim_iconst (v := 0) (by decide) dX12_added_159 ?_
        refine sim_istore (L' := [(4, .int (0 : Int32)), (3, .int (1000000000 : Int32)), (2, .int (-1 : Int32)), (0, .ref 75), (1, .int p1)]) rfl (by decide) dX12_added_160 ?_
        refine sim_sub [3, 4, 2, 1, 0] rfl ?_
        refine sX12_added_l162 (fun y32 y33 => ?_) _ (-1 : Int32) (1000000000 : Int32) (0 : Int32)
        · refine sim_iload_n 0 rfl dX12_added_207 ?_
          refine sim_if_ne (tgt := 215) dX12_added_208 (by decide) (fun c34 => ?_) (fun c34 => ?_)
          · refine sim_iload_n 1 rfl dX12_added_215 ?_
            exact sim_iret rfl rfl dX12_added_216
          · refine sim_iload_n 2 rfl dX12_added_211 ?_
            refine sim_goto (tgt := 216) dX12_added_212 (by decide) ?_
            exact sim_iret rfl rfl dX12_added_216
    · refine sim_iconst (v := -1) (by decide) dX12_added_16 ?_
      exact sim_iret rfl rfl dX12_added_17
theorem okX12_added (p1 : Int32) (h : AH) (b : Int32 × AH) (e : fX12_added p1 h = some b) : Ok yX12_added cX12_added 6 (some .int) 3 [.ref 75, .int p1] h (some (.int b.1), b.2) := ok_of (sX12_added p1 h) (by rw [e]; rfl) (by decide +kernel) (Nat.le_of_ble_eq_true rfl)
def fX12_mayBeNext_l2b (rec : Int32 → Option Int32) (x1 : Int32) (x2 : Int32) (h : AH) (x3 : Int32) : Option Int32 :=
  if x3 < (h.1 75 2) then
    if (fX12_has x2 x3 h) = 0 then
      rec (x3 + 1)
    else
      if x1 < 0 ∨ 20 ≤ x1.toNatClampNeg then none else
      if x3 < 0 ∨ 20 ≤ x3.toNatClampNeg then none else
      if x3 < 0 ∨ 20 ≤ x3.toNatClampNeg then none else
      if x1 < 0 ∨ 20 ≤ x1.toNatClampNeg then none else
      if ((h.1 107 x1.toNatClampNeg) * (h.1 106 x3.toNatClampNeg)) < ((h.1 107 x3.toNatClampNeg) * (h.1 106 x1.toNatClampNeg)) then
        some (0 : Int32)
      else
        rec (x3 + 1)
  else
    some (1 : Int32)
def fX12_mayBeNext_l2 (x1 : Int32) (x2 : Int32) (h : AH) : Nat → Int32 → Option Int32
  | 0, _ => none
  | n + 1, x3 => fX12_mayBeNext_l2b (fX12_mayBeNext_l2 x1 x2 h n) x1 x2 h x3
theorem sX12_mayBeNext_l2b {rec : Int32 → Option Int32} {x1 : Int32} {x2 : Int32} {h : AH} (hR : ∀ (x3 : Int32), Sim RX12 cX12_mayBeNext 4 (some .boolean) 2 (Option.map (pI h)) (rec x3) 2 [(0, .ref 75), (1, .int x1), (2, .int x2), (3, .int x3)] [] h) : ∀ (x3 : Int32), Sim RX12 cX12_mayBeNext 4 (some .boolean) 2 (Option.map (pI h)) (fX12_mayBeNext_l2b rec x1 x2 h x3) 2 [(0, .ref 75), (1, .int x1), (2, .int x2), (3, .int x3)] [] h := by
  intro x3
  unfold fX12_mayBeNext_l2b
  refine sim_iload_n 3 rfl dX12_mayBeNext_2 ?_
  refine sim_aload_n 0 rfl dX12_mayBeNext_3 ?_
  refine sim_getI flX12_145 rfl rfl dX12_mayBeNext_4 ?_
  refine sim_icmp_ge (tgt := 55) dX12_mayBeNext_7 (by decide) (fun c1 => ?_) (fun c1 => ?_)
  · refine sim_iconst (v := 1) (by decide) dX12_mayBeNext_55 ?_
    exact sim_zret rfl rfl rfl dX12_mayBeNext_56
  · refine sim_iload_n 2 rfl dX12_mayBeNext_10 ?_
    refine sim_iload_n 3 rfl dX12_mayBeNext_11 ?_
    refine sim_cS (As := [.int x2, .int x3]) (st := []) (r := (some (.int (fX12_has x2 x3 h)))) (h1 := h) (okX12_has x2 x3 h) (fun _ => rfl) mlX12_327 mtX12_has rfl (Nat.le_of_ble_eq_true rfl) rfl (Nat.le_of_ble_eq_true rfl) dX12_mayBeNext_12 ?_
    refine sim_if_eq (tgt := 49) dX12_mayBeNext_15 (by decide) (fun c2 => ?_) (fun c2 => ?_)
    · refine sim_iinc (v := x3 + 1) (L' := [(3, .int (x3 + 1)), (0, .ref 75), (1, .int x1), (2, .int x2)]) 3 rfl rfl rfl (by decide) dX12_mayBeNext_49 ?_
      refine sim_goto (tgt := 2) dX12_mayBeNext_52 (by decide) ?_
      refine sim_sub [1, 2, 3, 0] rfl ?_
      exact hR (x3 + 1)
    · refine sim_aload_n 0 rfl dX12_mayBeNext_18 ?_
      refine sim_getR flX12_104 rfl rfl dX12_mayBeNext_19 ?_
      refine sim_iload_n 1 rfl dX12_mayBeNext_22 ?_
      refine sim_nguard (fun c3 => ?_)
      refine sim_iald rfl c3 dX12_mayBeNext_23 ?_
      refine sim_aload_n 0 rfl dX12_mayBeNext_24 ?_
      refine sim_getR flX12_101 rfl rfl dX12_mayBeNext_25 ?_
      refine sim_iload_n 3 rfl dX12_mayBeNext_28 ?_
      refine sim_nguard (fun c4 => ?_)
      refine sim_iald rfl c4 dX12_mayBeNext_29 ?_
      refine sim_imul dX12_mayBeNext_30 ?_
      refine sim_aload_n 0 rfl dX12_mayBeNext_31 ?_
      refine sim_getR flX12_104 rfl rfl dX12_mayBeNext_32 ?_
      refine sim_iload_n 3 rfl dX12_mayBeNext_35 ?_
      refine sim_nguard (fun c5 => ?_)
      refine sim_iald rfl c5 dX12_mayBeNext_36 ?_
      refine sim_aload_n 0 rfl dX12_mayBeNext_37 ?_
      refine sim_getR flX12_101 rfl rfl dX12_mayBeNext_38 ?_
      refine sim_iload_n 1 rfl dX12_mayBeNext_41 ?_
      refine sim_nguard (fun c6 => ?_)
      refine sim_iald rfl c6 dX12_mayBeNext_42 ?_
      refine sim_imul dX12_mayBeNext_43 ?_
      refine sim_icmp_ge (tgt := 49) dX12_mayBeNext_44 (by decide) (fun c7 => ?_) (fun c7 => ?_)
      · refine sim_iinc (v := x3 + 1) (L' := [(3, .int (x3 + 1)), (0, .ref 75), (1, .int x1), (2, .int x2)]) 3 rfl rfl rfl (by decide) dX12_mayBeNext_49 ?_
        refine sim_goto (tgt := 2) dX12_mayBeNext_52 (by decide) ?_
        refine sim_sub [1, 2, 3, 0] rfl ?_
        exact hR (x3 + 1)
      · refine sim_iconst (v := 0) (by decide) dX12_mayBeNext_47 ?_
        exact sim_zret rfl rfl rfl dX12_mayBeNext_48
theorem sX12_mayBeNext_l2 {x1 : Int32} {x2 : Int32} {h : AH} : ∀ (n : Nat) (x3 : Int32), Sim RX12 cX12_mayBeNext 4 (some .boolean) 2 (Option.map (pI h)) (fX12_mayBeNext_l2 x1 x2 h n x3) 2 [(0, .ref 75), (1, .int x1), (2, .int x2), (3, .int x3)] [] h := by
  intro n
  induction n with
  | zero => intro x3; exact sim_none
  | succ n ih => intro x3; exact sX12_mayBeNext_l2b ih x3
def fX12_mayBeNext (p1 : Int32) (p2 : Int32) (h : AH) : Option Int32 :=
  fX12_mayBeNext_l2 p1 p2 h fuel0 (0 : Int32)
theorem sX12_mayBeNext (p1 : Int32) (p2 : Int32) (h : AH) : Sim RX12 cX12_mayBeNext 4 (some .boolean) 2 (Option.map (pI h)) (fX12_mayBeNext p1 p2 h) 0 [(0, .ref 75), (1, .int p1), (2, .int p2)] [] h := by
  unfold fX12_mayBeNext
  refine sim_iconst (v := 0) (by decide) dX12_mayBeNext_0 ?_
  refine sim_istore_n (L' := [(3, .int (0 : Int32)), (0, .ref 75), (1, .int p1), (2, .int p2)]) rfl (by decide) dX12_mayBeNext_1 ?_
  refine sim_sub [1, 2, 3, 0] rfl ?_
  refine sX12_mayBeNext_l2 _ (0 : Int32)
theorem okX12_mayBeNext (p1 : Int32) (p2 : Int32) (h : AH) (b : Int32) (e : fX12_mayBeNext p1 p2 h = some b) : Ok yX12_mayBeNext cX12_mayBeNext 4 (some .boolean) 2 [.ref 75, .int p1, .int p2] h (some (.int b), h) := ok_of (sX12_mayBeNext p1 p2 h) (by rw [e]; rfl) (by decide +kernel) (Nat.le_of_ble_eq_true rfl)
def fX12_laysOrder_l2b (rec : Int32 → AH → Option AH) (K54 : AH → Option AH) (x1 : Int32) (x2 : Int32) (h : AH) : Option AH :=
  if x2 < (h.1 75 2) then
    (fX12_minutesOf x2 x1 h).bind (fun b2 =>
    if x2 < 0 ∨ 20 ≤ x2.toNatClampNeg then none else
    letT (sI b2.2 106 x2.toNatClampNeg b2.1) (fun g5 =>
    if x2 < 0 ∨ 20 ≤ x2.toNatClampNeg then none else
    (fX12_feels x2 (g5.1 77 x2.toNatClampNeg) (0 : Int32) g5).bind (fun b7 =>
    (fX12_byLaw (119 : Int32) (99 : Int32) b7).bind (fun b9 =>
    if x2 < 0 ∨ 20 ≤ x2.toNatClampNeg then none else
    letT (sI b9.2 107 x2.toNatClampNeg b9.1) (fun g12 =>
    rec (x2 + 1) g12)))))
  else
    K54 h
def fX12_laysOrder_l2 (K54 : AH → Option AH) (x1 : Int32) : Nat → Int32 → AH → Option AH
  | 0, _, _ => none
  | n + 1, x2, h => fX12_laysOrder_l2b (fX12_laysOrder_l2 K54 x1 n) K54 x1 x2 h
theorem sX12_laysOrder_l2b {rec : Int32 → AH → Option AH} {K54 : AH → Option AH} {x1 : Int32} (hR : ∀ (x2 : Int32) (h : AH), Sim RX12 cX12_laysOrder 5 none 5 (Option.map oV) (rec x2 h) 2 [(0, .ref 75), (1, .int x1), (2, .int x2)] [] h) (hK54 : ∀ (g : AH), Sim RX12 cX12_laysOrder 5 none 5 (Option.map oV) (K54 g) 54 [(0, .ref 75)] [] g) : ∀ (x2 : Int32) (h : AH), Sim RX12 cX12_laysOrder 5 none 5 (Option.map oV) (fX12_laysOrder_l2b rec K54 x1 x2 h) 2 [(0, .ref 75), (1, .int x1), (2, .int x2)] [] h := by
  intro x2 h
  unfold fX12_laysOrder_l2b
  refine sim_iload_n 2 rfl dX12_laysOrder_2 ?_
  refine sim_aload_n 0 rfl dX12_laysOrder_3 ?_
  refine sim_getI flX12_145 rfl rfl dX12_laysOrder_4 ?_
  refine sim_icmp_ge (tgt := 54) dX12_laysOrder_7 (by decide) (fun c1 => ?_) (fun c1 => ?_)
  · refine sim_sub [0] rfl ?_
    exact hK54 h
  · refine sim_aload_n 0 rfl dX12_laysOrder_10 ?_
    refine sim_getR flX12_101 rfl rfl dX12_laysOrder_11 ?_
    refine sim_iload_n 2 rfl dX12_laysOrder_14 ?_
    refine sim_aload_n 0 rfl dX12_laysOrder_15 ?_
    refine sim_iload_n 2 rfl dX12_laysOrder_16 ?_
    refine sim_iload_n 1 rfl dX12_laysOrder_17 ?_
    refine sim_bind (fun b2 e3 => ?_)
    refine sim_cV (As := [.int x2, .int x1]) (st := [.int x2, .ref 106]) (r := (some (.int b2.1))) (h1 := b2.2) (okX12_minutesOf x2 x1 h b2 e3) (fun _ => rfl) mlX12_330 mtX12_minutesOf rfl rfl rfl rfl (Nat.le_of_ble_eq_true rfl) rfl (Nat.le_of_ble_eq_true rfl) dX12_laysOrder_18 ?_
    refine sim_nguard (fun c4 => ?_)
    refine sim_iast rfl c4 dX12_laysOrder_21 ?_
    refine sim_nmH (fun g5 => ?_)
    refine sim_aload_n 0 rfl dX12_laysOrder_22 ?_
    refine sim_iload_n 2 rfl dX12_laysOrder_23 ?_
    refine sim_aload_n 0 rfl dX12_laysOrder_24 ?_
    refine sim_getR flX12_13 rfl rfl dX12_laysOrder_25 ?_
    refine sim_iload_n 2 rfl dX12_laysOrder_28 ?_
    refine sim_nguard (fun c6 => ?_)
    refine sim_iald rfl c6 dX12_laysOrder_29 ?_
    refine sim_iconst (v := 0) (by decide) dX12_laysOrder_30 ?_
    refine sim_bind (fun b7 e8 => ?_)
    refine sim_cV (As := [.int x2, .int (g5.1 77 x2.toNatClampNeg), .int (0 : Int32)]) (st := []) (r := none) (h1 := b7) (okX12_feels x2 (g5.1 77 x2.toNatClampNeg) (0 : Int32) g5 b7 e8) (fun _ => rfl) mlX12_311 mtX12_feels rfl rfl rfl rfl (Nat.le_of_ble_eq_true rfl) rfl (Nat.le_of_ble_eq_true rfl) dX12_laysOrder_31 ?_
    refine sim_aload_n 0 rfl dX12_laysOrder_34 ?_
    refine sim_getR flX12_104 rfl rfl dX12_laysOrder_35 ?_
    refine sim_iload_n 2 rfl dX12_laysOrder_38 ?_
    refine sim_aload_n 0 rfl dX12_laysOrder_39 ?_
    refine sim_bipush (v := 119) (by decide) dX12_laysOrder_40 ?_
    refine sim_bipush (v := 99) (by decide) dX12_laysOrder_42 ?_
    refine sim_bind (fun b9 e10 => ?_)
    refine sim_cV (As := [.int (119 : Int32), .int (99 : Int32)]) (st := [.int x2, .ref 107]) (r := (some (.int b9.1))) (h1 := b9.2) (okX12_byLaw (119 : Int32) (99 : Int32) b7 b9 e10) (fun _ => rfl) mlX12_318 mtX12_byLaw rfl rfl rfl rfl (Nat.le_of_ble_eq_true rfl) rfl (Nat.le_of_ble_eq_true rfl) dX12_laysOrder_44 ?_
    refine sim_nguard (fun c11 => ?_)
    refine sim_iast rfl c11 dX12_laysOrder_47 ?_
    refine sim_nmH (fun g12 => ?_)
    refine sim_iinc (v := x2 + 1) (L' := [(2, .int (x2 + 1)), (0, .ref 75), (1, .int x1)]) 2 rfl rfl rfl (by decide) dX12_laysOrder_48 ?_
    refine sim_goto (tgt := 2) dX12_laysOrder_51 (by decide) ?_
    refine sim_sub [1, 2, 0] rfl ?_
    exact hR (x2 + 1) g12
theorem sX12_laysOrder_l2 {K54 : AH → Option AH} {x1 : Int32} (hK54 : ∀ (g : AH), Sim RX12 cX12_laysOrder 5 none 5 (Option.map oV) (K54 g) 54 [(0, .ref 75)] [] g) : ∀ (n : Nat) (x2 : Int32) (h : AH), Sim RX12 cX12_laysOrder 5 none 5 (Option.map oV) (fX12_laysOrder_l2 K54 x1 n x2 h) 2 [(0, .ref 75), (1, .int x1), (2, .int x2)] [] h := by
  intro n
  induction n with
  | zero => intro x2 h; exact sim_none
  | succ n ih => intro x2 h; exact sX12_laysOrder_l2b ih hK54 x2 h
def fX12_laysOrder_l72b (rec : Int32 → Option AH) (K100 : Int32 → Option AH) (x2 : Int32) (x3 : Int32) (h : AH) (x4 : Int32) : Option AH :=
  if (fX12_has x2 x4 h) = 0 then
    letT (x4 + (1 : Int32)) (fun v17 =>
    rec v17)
  else
    (fX12_mayBeNext x4 x2 h).bind (fun b18 =>
    if b18 = 0 then
      letT (x4 + (1 : Int32)) (fun v21 =>
      rec v21)
    else
      K100 x4)
def fX12_laysOrder_l72 (K100 : Int32 → Option AH) (x2 : Int32) (x3 : Int32) (h : AH) : Nat → Int32 → Option AH
  | 0, _ => none
  | n + 1, x4 => fX12_laysOrder_l72b (fX12_laysOrder_l72 K100 x2 x3 h n) K100 x2 x3 h x4
theorem sX12_laysOrder_l72b {rec : Int32 → Option AH} {K100 : Int32 → Option AH} {x2 : Int32} {x3 : Int32} {h : AH} (hR : ∀ (x4 : Int32), Sim RX12 cX12_laysOrder 5 none 5 (Option.map oV) (rec x4) 72 [(0, .ref 75), (2, .int x2), (3, .int x3), (4, .int x4)] [] h) (hK100 : ∀ (y4 : Int32), Sim RX12 cX12_laysOrder 5 none 5 (Option.map oV) (K100 y4) 100 [(0, .ref 75), (2, .int x2), (3, .int x3), (4, .int y4)] [] h) : ∀ (x4 : Int32), Sim RX12 cX12_laysOrder 5 none 5 (Option.map oV) (fX12_laysOrder_l72b rec K100 x2 x3 h x4) 72 [(0, .ref 75), (2, .int x2), (3, .int x3), (4, .int x4)] [] h := by
  intro x4
  unfold fX12_laysOrder_l72b
  refine sim_iload_n 1 rfl dX12_laysOrder_72 ?_
  refine sim_iload 3 rfl dX12_laysOrder_73 ?_
  refine sim_cS (As := [.int x2, .int x4]) (st := []) (r := (some (.int (fX12_has x2 x4 h)))) (h1 := h) (okX12_has x2 x4 h) (fun _ => rfl) mlX12_327 mtX12_has rfl (Nat.le_of_ble_eq_true rfl) rfl (Nat.le_of_ble_eq_true rfl) dX12_laysOrder_75 ?_
  refine sim_if_eq (tgt := 91) dX12_laysOrder_78 (by decide) (fun c16 => ?_) (fun c16 => ?_)
  · refine sim_iload 3 rfl dX12_laysOrder_91 ?_
    refine sim_iconst (v := 1) (by decide) dX12_laysOrder_93 ?_
    refine sim_iadd dX12_laysOrder_94 ?_
    refine sim_nmI (fun v17 => ?_)
    refine sim_istore (L' := [(4, .int v17), (0, .ref 75), (2, .int x2), (3, .int x3)]) rfl (by decide) dX12_laysOrder_95 ?_
    refine sim_goto (tgt := 72) dX12_laysOrder_97 (by decide) ?_
    refine sim_sub [1, 2, 3, 0] rfl ?_
    exact hR v17
  · refine sim_aload_n 0 rfl dX12_laysOrder_81 ?_
    refine sim_iload 3 rfl dX12_laysOrder_82 ?_
    refine sim_iload_n 1 rfl dX12_laysOrder_84 ?_
    refine sim_bind (fun b18 e19 => ?_)
    refine sim_cV (As := [.int x4, .int x2]) (st := []) (r := (some (.int b18))) (h1 := h) (okX12_mayBeNext x4 x2 h b18 e19) (fun _ => rfl) mlX12_379 mtX12_mayBeNext rfl rfl rfl rfl (Nat.le_of_ble_eq_true rfl) rfl (Nat.le_of_ble_eq_true rfl) dX12_laysOrder_85 ?_
    refine sim_if_ne (tgt := 100) dX12_laysOrder_88 (by decide) (fun c20 => ?_) (fun c20 => ?_)
    · exact hK100 x4
    · refine sim_iload 3 rfl dX12_laysOrder_91 ?_
      refine sim_iconst (v := 1) (by decide) dX12_laysOrder_93 ?_
      refine sim_iadd dX12_laysOrder_94 ?_
      refine sim_nmI (fun v21 => ?_)
      refine sim_istore (L' := [(4, .int v21), (0, .ref 75), (2, .int x2), (3, .int x3)]) rfl (by decide) dX12_laysOrder_95 ?_
      refine sim_goto (tgt := 72) dX12_laysOrder_97 (by decide) ?_
      refine sim_sub [1, 2, 3, 0] rfl ?_
      exact hR v21
theorem sX12_laysOrder_l72 {K100 : Int32 → Option AH} {x2 : Int32} {x3 : Int32} {h : AH} (hK100 : ∀ (y4 : Int32), Sim RX12 cX12_laysOrder 5 none 5 (Option.map oV) (K100 y4) 100 [(0, .ref 75), (2, .int x2), (3, .int x3), (4, .int y4)] [] h) : ∀ (n : Nat) (x4 : Int32), Sim RX12 cX12_laysOrder 5 none 5 (Option.map oV) (fX12_laysOrder_l72 K100 x2 x3 h n x4) 72 [(0, .ref 75), (2, .int x2), (3, .int x3), (4, .int x4)] [] h := by
  intro n
  induction n with
  | zero => intro x4; exact sim_none
  | succ n ih => intro x4; exact sX12_laysOrder_l72b ih hK100 x4
def fX12_laysOrder_l61b (rec : Int32 → Int32 → AH → Option AH) (x2 : Int32) (x3 : Int32) (h : AH) : Option AH :=
  if x3 < (h.1 75 2) then
    fX12_laysOrder_l72 (fun (y22 : Int32) =>
      if x3 < 0 ∨ 20 ≤ x3.toNatClampNeg then none else
      letT (sI h 108 x3.toNatClampNeg y22) (fun g24 =>
      letT (x2 &&& ((jshl (1 : Int32) y22) ^^^ (-1 : Int32))) (fun v25 =>
      rec v25 (x3 + 1) g24))) x2 x3 h fuel0 (0 : Int32)
  else
    some h
def fX12_laysOrder_l61 : Nat → Int32 → Int32 → AH → Option AH
  | 0, _, _, _ => none
  | n + 1, x2, x3, h => fX12_laysOrder_l61b (fX12_laysOrder_l61 n) x2 x3 h
theorem sX12_laysOrder_l61b {rec : Int32 → Int32 → AH → Option AH} (hR : ∀ (x2 : Int32) (x3 : Int32) (h : AH), Sim RX12 cX12_laysOrder 5 none 5 (Option.map oV) (rec x2 x3 h) 61 [(0, .ref 75), (2, .int x2), (3, .int x3)] [] h) : ∀ (x2 : Int32) (x3 : Int32) (h : AH), Sim RX12 cX12_laysOrder 5 none 5 (Option.map oV) (fX12_laysOrder_l61b rec x2 x3 h) 61 [(0, .ref 75), (2, .int x2), (3, .int x3)] [] h := by
  intro x2 x3 h
  unfold fX12_laysOrder_l61b
  refine sim_iload_n 2 rfl dX12_laysOrder_61 ?_
  refine sim_aload_n 0 rfl dX12_laysOrder_62 ?_
  refine sim_getI flX12_145 rfl rfl dX12_laysOrder_63 ?_
  refine sim_icmp_ge (tgt := 123) dX12_laysOrder_66 (by decide) (fun c15 => ?_) (fun c15 => ?_)
  · exact sim_vret rfl rfl dX12_laysOrder_123
  · refine sim_iconst (v := 0) (by decide) dX12_laysOrder_69 ?_
    refine sim_istore (L' := [(4, .int (0 : Int32)), (0, .ref 75), (2, .int x2), (3, .int x3)]) rfl (by decide) dX12_laysOrder_70 ?_
    refine sim_sub [1, 2, 3, 0] rfl ?_
    refine sX12_laysOrder_l72 (fun y22 => ?_) _ (0 : Int32)
    · refine sim_aload_n 0 rfl dX12_laysOrder_100 ?_
      refine sim_getR flX12_107 rfl rfl dX12_laysOrder_101 ?_
      refine sim_iload_n 2 rfl dX12_laysOrder_104 ?_
      refine sim_iload 3 rfl dX12_laysOrder_105 ?_
      refine sim_nguard (fun c23 => ?_)
      refine sim_iast rfl c23 dX12_laysOrder_107 ?_
      refine sim_nmH (fun g24 => ?_)
      refine sim_iload_n 1 rfl dX12_laysOrder_108 ?_
      refine sim_iconst (v := 1) (by decide) dX12_laysOrder_109 ?_
      refine sim_iload 3 rfl dX12_laysOrder_110 ?_
      refine sim_ishl dX12_laysOrder_112 ?_
      refine sim_iconst (v := -1) (by decide) dX12_laysOrder_113 ?_
      refine sim_ixor dX12_laysOrder_114 ?_
      refine sim_iand dX12_laysOrder_115 ?_
      refine sim_nmI (fun v25 => ?_)
      refine sim_istore_n (L' := [(2, .int v25), (0, .ref 75), (3, .int x3), (4, .int y22)]) rfl (by decide) dX12_laysOrder_116 ?_
      refine sim_iinc (v := x3 + 1) (L' := [(3, .int (x3 + 1)), (2, .int v25), (0, .ref 75), (4, .int y22)]) 2 rfl rfl rfl (by decide) dX12_laysOrder_117 ?_
      refine sim_goto (tgt := 61) dX12_laysOrder_120 (by decide) ?_
      refine sim_sub [2, 1, 0] rfl ?_
      exact hR v25 (x3 + 1) g24
theorem sX12_laysOrder_l61 : ∀ (n : Nat) (x2 : Int32) (x3 : Int32) (h : AH), Sim RX12 cX12_laysOrder 5 none 5 (Option.map oV) (fX12_laysOrder_l61 n x2 x3 h) 61 [(0, .ref 75), (2, .int x2), (3, .int x3)] [] h := by
  intro n
  induction n with
  | zero => intro x2 x3 h; exact sim_none
  | succ n ih => intro x2 x3 h; exact sX12_laysOrder_l61b ih x2 x3 h
def fX12_laysOrder (p1 : Int32) (h : AH) : Option AH :=
  fX12_laysOrder_l2 (fun (g13 : AH) =>
    letT (fX12_allLines g13) (fun v14 =>
    fX12_laysOrder_l61 fuel0 v14 (0 : Int32) g13)) p1 fuel0 (0 : Int32) h
theorem sX12_laysOrder (p1 : Int32) (h : AH) : Sim RX12 cX12_laysOrder 5 none 5 (Option.map oV) (fX12_laysOrder p1 h) 0 [(0, .ref 75), (1, .int p1)] [] h := by
  unfold fX12_laysOrder
  refine sim_iconst (v := 0) (by decide) dX12_laysOrder_0 ?_
  refine sim_istore_n (L' := [(2, .int (0 : Int32)), (0, .ref 75), (1, .int p1)]) rfl (by decide) dX12_laysOrder_1 ?_
  refine sim_sub [1, 2, 0] rfl ?_
  refine sX12_laysOrder_l2 (fun g13 => ?_) _ (0 : Int32) h
  · refine sim_aload_n 0 rfl dX12_laysOrder_54 ?_
    refine sim_cV (As := []) (st := []) (r := (some (.int (fX12_allLines g13)))) (h1 := g13) (okX12_allLines g13) (fun _ => rfl) mlX12_337 mtX12_allLines rfl rfl rfl rfl (Nat.le_of_ble_eq_true rfl) rfl (Nat.le_of_ble_eq_true rfl) dX12_laysOrder_55 ?_
    refine sim_nmI (fun v14 => ?_)
    refine sim_istore_n (L' := [(2, .int v14), (0, .ref 75)]) rfl (by decide) dX12_laysOrder_58 ?_
    refine sim_iconst (v := 0) (by decide) dX12_laysOrder_59 ?_
    refine sim_istore_n (L' := [(3, .int (0 : Int32)), (2, .int v14), (0, .ref 75)]) rfl (by decide) dX12_laysOrder_60 ?_
    refine sim_sub [2, 1, 0] rfl ?_
    refine sX12_laysOrder_l61 _ v14 (0 : Int32) g13
theorem okX12_laysOrder (p1 : Int32) (h : AH) (b : AH) (e : fX12_laysOrder p1 h = some b) : Ok yX12_laysOrder cX12_laysOrder 5 none 5 [.ref 75, .int p1] h (none, b) := ok_of (sX12_laysOrder p1 h) (by rw [e]; rfl) (by decide +kernel) (Nat.le_of_ble_eq_true rfl)
def fX12_gcd_l6b (rec : Int64 → Int64 → Option Int64) (h : AH) (x4 : Int64) (x6 : Int64) : Option Int64 :=
  if (lg_cmp x6 (0 : Int64)) = 0 then
    some x4
  else
    if x6 = 0 then none else
    rec x6 (jremL x4 x6)
def fX12_gcd_l6 (h : AH) : Nat → Int64 → Int64 → Option Int64
  | 0, _, _ => none
  | n + 1, x4, x6 => fX12_gcd_l6b (fX12_gcd_l6 h n) h x4 x6
theorem sX12_gcd_l6b {rec : Int64 → Int64 → Option Int64} {h : AH} (hR : ∀ (x4 : Int64) (x6 : Int64), Sim RX12 cX12_gcd 10 (some .long) 1 (Option.map (pJ h)) (rec x4 x6) 6 [(4, .long x4), (6, .long x6)] [] h) : ∀ (x4 : Int64) (x6 : Int64), Sim RX12 cX12_gcd 10 (some .long) 1 (Option.map (pJ h)) (fX12_gcd_l6b rec h x4 x6) 6 [(4, .long x4), (6, .long x6)] [] h := by
  intro x4 x6
  unfold fX12_gcd_l6b
  refine sim_lload 1 rfl dX12_gcd_6 ?_
  refine sim_lconst (v := 0) (by decide) dX12_gcd_8 ?_
  refine sim_lcmp dX12_gcd_9 ?_
  refine sim_if_eq (tgt := 31) dX12_gcd_10 (by decide) (fun c1 => ?_) (fun c1 => ?_)
  · refine sim_lload 0 rfl dX12_gcd_31 ?_
    exact sim_lret rfl rfl dX12_gcd_33
  · refine sim_lload 0 rfl dX12_gcd_13 ?_
    refine sim_lload 1 rfl dX12_gcd_15 ?_
    refine sim_nguard (fun c2 => ?_)
    refine sim_lrem c2 dX12_gcd_17 ?_
    refine sim_lstore (L' := [(8, .long (jremL x4 x6)), (4, .long x4), (6, .long x6)]) rfl (by decide) dX12_gcd_18 ?_
    refine sim_lload 2 rfl dX12_gcd_20 ?_
    refine sim_lstore (L' := [(4, .long x6), (8, .long (jremL x4 x6)), (6, .long x6)]) rfl (by decide) dX12_gcd_22 ?_
    refine sim_lload 1 rfl dX12_gcd_24 ?_
    refine sim_lstore (L' := [(6, .long (jremL x4 x6)), (4, .long x6), (8, .long (jremL x4 x6))]) rfl (by decide) dX12_gcd_26 ?_
    refine sim_goto (tgt := 6) dX12_gcd_28 (by decide) ?_
    refine sim_sub [1, 0] rfl ?_
    exact hR x6 (jremL x4 x6)
theorem sX12_gcd_l6 {h : AH} : ∀ (n : Nat) (x4 : Int64) (x6 : Int64), Sim RX12 cX12_gcd 10 (some .long) 1 (Option.map (pJ h)) (fX12_gcd_l6 h n x4 x6) 6 [(4, .long x4), (6, .long x6)] [] h := by
  intro n
  induction n with
  | zero => intro x4 x6; exact sim_none
  | succ n ih => intro x4 x6; exact sX12_gcd_l6b ih x4 x6
def fX12_gcd (p0 : Int64) (p1 : Int64) (h : AH) : Option Int64 :=
  fX12_gcd_l6 h fuel0 p0 p1
theorem sX12_gcd (p0 : Int64) (p1 : Int64) (h : AH) : Sim RX12 cX12_gcd 10 (some .long) 1 (Option.map (pJ h)) (fX12_gcd p0 p1 h) 0 [(0, .long p0), (2, .long p1)] [] h := by
  unfold fX12_gcd
  refine sim_lload_n 0 rfl dX12_gcd_0 ?_
  refine sim_lstore (L' := [(4, .long p0), (0, .long p0), (2, .long p1)]) rfl (by decide) dX12_gcd_1 ?_
  refine sim_lload_n 2 rfl dX12_gcd_3 ?_
  refine sim_lstore (L' := [(6, .long p1), (4, .long p0), (0, .long p0), (2, .long p1)]) rfl (by decide) dX12_gcd_4 ?_
  refine sim_sub [1, 0] rfl ?_
  refine sX12_gcd_l6 _ p0 p1
theorem okX12_gcd (p0 : Int64) (p1 : Int64) (h : AH) (b : Int64) (e : fX12_gcd p0 p1 h = some b) : Ok yX12_gcd cX12_gcd 10 (some .long) 1 [.long p0, .long p1] h (some (.long b), h) := ok_of (sX12_gcd p0 p1 h) (by rw [e]; rfl) (by decide +kernel) (Nat.le_of_ble_eq_true rfl)
def fX12_order_l68b (rec : Int64 → Int64 → Int32 → Int32 → Option (Int64 × AH)) (K138 : Int64 → Int64 → Option (Int64 × AH)) (x2 : Int32) (h : AH) (x3 : Int64) (x5 : Int64) (x7 : Int32) (x8 : Int32) : Option (Int64 × AH) :=
  if x8 < (h.1 75 2) then
    if x8 < 0 ∨ 20 ≤ x8.toNatClampNeg then none else
    if (h.1 108 x8.toNatClampNeg) < 0 ∨ 20 ≤ (h.1 108 x8.toNatClampNeg).toNatClampNeg then none else
    letT (x7 + (h.1 106 (h.1 108 x8.toNatClampNeg).toNatClampNeg)) (fun v10 =>
    if x8 < 0 ∨ 20 ≤ x8.toNatClampNeg then none else
    if (h.1 108 x8.toNatClampNeg) < 0 ∨ 20 ≤ (h.1 108 x8.toNatClampNeg).toNatClampNeg then none else
    letT (x3 + (((h.1 107 (h.1 108 x8.toNatClampNeg).toNatClampNeg).toInt64) * v10.toInt64)) (fun v13 =>
    if x8 < 0 ∨ 20 ≤ x8.toNatClampNeg then none else
    if (h.1 108 x8.toNatClampNeg) < 0 ∨ 20 ≤ (h.1 108 x8.toNatClampNeg).toNatClampNeg then none else
    letT (x5 + ((h.1 107 (h.1 108 x8.toNatClampNeg).toNatClampNeg).toInt64)) (fun v16 =>
    rec v13 v16 v10 (x8 + 1))))
  else
    K138 x3 x5
def fX12_order_l68 (K138 : Int64 → Int64 → Option (Int64 × AH)) (x2 : Int32) (h : AH) : Nat → Int64 → Int64 → Int32 → Int32 → Option (Int64 × AH)
  | 0, _, _, _, _ => none
  | n + 1, x3, x5, x7, x8 => fX12_order_l68b (fX12_order_l68 K138 x2 h n) K138 x2 h x3 x5 x7 x8
theorem sX12_order_l68b {rec : Int64 → Int64 → Int32 → Int32 → Option (Int64 × AH)} {K138 : Int64 → Int64 → Option (Int64 × AH)} {x2 : Int32} {h : AH} (hR : ∀ (x3 : Int64) (x5 : Int64) (x7 : Int32) (x8 : Int32), Sim RX12 cX12_order 10 (some .long) 6 (Option.map oJ) (rec x3 x5 x7 x8) 68 [(0, .ref 75), (2, .int x2), (3, .long x3), (5, .long x5), (7, .int x7), (8, .int x8)] [] h) (hK138 : ∀ (y3 : Int64) (y5 : Int64), Sim RX12 cX12_order 10 (some .long) 6 (Option.map oJ) (K138 y3 y5) 138 [(2, .int x2), (3, .long y3), (5, .long y5)] [] h) : ∀ (x3 : Int64) (x5 : Int64) (x7 : Int32) (x8 : Int32), Sim RX12 cX12_order 10 (some .long) 6 (Option.map oJ) (fX12_order_l68b rec K138 x2 h x3 x5 x7 x8) 68 [(0, .ref 75), (2, .int x2), (3, .long x3), (5, .long x5), (7, .int x7), (8, .int x8)] [] h := by
  intro x3 x5 x7 x8
  unfold fX12_order_l68b
  refine sim_iload 5 rfl dX12_order_68 ?_
  refine sim_aload_n 0 rfl dX12_order_70 ?_
  refine sim_getI flX12_145 rfl rfl dX12_order_71 ?_
  refine sim_icmp_ge (tgt := 138) dX12_order_74 (by decide) (fun c7 => ?_) (fun c7 => ?_)
  · refine sim_sub [1, 2, 3] rfl ?_
    exact hK138 x3 x5
  · refine sim_iload 4 rfl dX12_order_77 ?_
    refine sim_aload_n 0 rfl dX12_order_79 ?_
    refine sim_getR flX12_101 rfl rfl dX12_order_80 ?_
    refine sim_aload_n 0 rfl dX12_order_83 ?_
    refine sim_getR flX12_107 rfl rfl dX12_order_84 ?_
    refine sim_iload 5 rfl dX12_order_87 ?_
    refine sim_nguard (fun c8 => ?_)
    refine sim_iald rfl c8 dX12_order_89 ?_
    refine sim_nguard (fun c9 => ?_)
    refine sim_iald rfl c9 dX12_order_90 ?_
    refine sim_iadd dX12_order_91 ?_
    refine sim_nmI (fun v10 => ?_)
    refine sim_istore (L' := [(7, .int v10), (0, .ref 75), (2, .int x2), (3, .long x3), (5, .long x5), (8, .int x8)]) rfl (by decide) dX12_order_92 ?_
    refine sim_lload_n 3 rfl dX12_order_94 ?_
    refine sim_aload_n 1 rfl dX12_order_95 ?_
    refine sim_getR flX12_104 rfl rfl dX12_order_96 ?_
    refine sim_aload_n 1 rfl dX12_order_99 ?_
    refine sim_getR flX12_107 rfl rfl dX12_order_100 ?_
    refine sim_iload 5 rfl dX12_order_103 ?_
    refine sim_nguard (fun c11 => ?_)
    refine sim_iald rfl c11 dX12_order_105 ?_
    refine sim_nguard (fun c12 => ?_)
    refine sim_iald rfl c12 dX12_order_106 ?_
    refine sim_i2l dX12_order_107 ?_
    refine sim_iload 0 rfl dX12_order_108 ?_
    refine sim_i2l dX12_order_110 ?_
    refine sim_lmul dX12_order_111 ?_
    refine sim_ladd dX12_order_112 ?_
    refine sim_nmJ (fun v13 => ?_)
    refine sim_lstore_n (L' := [(3, .long v13), (7, .int v10), (0, .ref 75), (2, .int x2), (5, .long x5), (8, .int x8)]) rfl (by decide) dX12_order_113 ?_
    refine sim_lload 4 rfl dX12_order_114 ?_
    refine sim_aload_n 2 rfl dX12_order_116 ?_
    refine sim_getR flX12_104 rfl rfl dX12_order_117 ?_
    refine sim_aload_n 2 rfl dX12_order_120 ?_
    refine sim_getR flX12_107 rfl rfl dX12_order_121 ?_
    refine sim_iload 5 rfl dX12_order_124 ?_
    refine sim_nguard (fun c14 => ?_)
    refine sim_iald rfl c14 dX12_order_126 ?_
    refine sim_nguard (fun c15 => ?_)
    refine sim_iald rfl c15 dX12_order_127 ?_
    refine sim_i2l dX12_order_128 ?_
    refine sim_ladd dX12_order_129 ?_
    refine sim_nmJ (fun v16 => ?_)
    refine sim_lstore (L' := [(5, .long v16), (3, .long v13), (7, .int v10), (0, .ref 75), (2, .int x2), (8, .int x8)]) rfl (by decide) dX12_order_130 ?_
    refine sim_iinc (v := x8 + 1) (L' := [(8, .int (x8 + 1)), (5, .long v16), (3, .long v13), (7, .int v10), (0, .ref 75), (2, .int x2)]) 5 rfl rfl rfl (by decide) dX12_order_132 ?_
    refine sim_goto (tgt := 68) dX12_order_135 (by decide) ?_
    refine sim_sub [4, 5, 2, 1, 3, 0] rfl ?_
    exact hR v13 v16 v10 (x8 + 1)
theorem sX12_order_l68 {K138 : Int64 → Int64 → Option (Int64 × AH)} {x2 : Int32} {h : AH} (hK138 : ∀ (y3 : Int64) (y5 : Int64), Sim RX12 cX12_order 10 (some .long) 6 (Option.map oJ) (K138 y3 y5) 138 [(2, .int x2), (3, .long y3), (5, .long y5)] [] h) : ∀ (n : Nat) (x3 : Int64) (x5 : Int64) (x7 : Int32) (x8 : Int32), Sim RX12 cX12_order 10 (some .long) 6 (Option.map oJ) (fX12_order_l68 K138 x2 h n x3 x5 x7 x8) 68 [(0, .ref 75), (2, .int x2), (3, .long x3), (5, .long x5), (7, .int x7), (8, .int x8)] [] h := by
  intro n
  induction n with
  | zero => intro x3 x5 x7 x8; exact sim_none
  | succ n ih => intro x3 x5 x7 x8; exact sX12_order_l68b ih hK138 x3 x5 x7 x8
def fX12_order (p1 : Int32) (p2 : Int32) (h : AH) : Option (Int64 × AH) :=
  if (fX12_isHearer p1 h) = 0 then
    some ((-1 : Int64), h)
  else
    if (h.1 75 2) = 0 then
      some ((-1 : Int64), h)
    else
      letT ((fX12_laysOrder p1 h).bind (fun b4 =>
        if p2 < (30 : Int32) then
          if p2 < 0 ∨ 20 ≤ p2.toNatClampNeg then none else
          some ((b4.1 108 p2.toNatClampNeg).toInt64, b4)
        else
          fX12_order_l68 (fun (y17 : Int64) (y18 : Int64) =>
            if (lg_cmp y18 (0 : Int64)) = 0 then
              if p2 = (30 : Int32) then
                some ((0 : Int64), b4)
              else
                some ((1 : Int64), b4)
            else
              (fX12_gcd y17 y18 b4).bind (fun b20 =>
              if p2 = (30 : Int32) then
                if b20 = 0 then none else
                some (y17 / b20, b4)
              else
                if b20 = 0 then none else
                some (y18 / b20, b4))) p2 b4 fuel0 (0 : Int64) (0 : Int64) (0 : Int32) (0 : Int32))) (fun J3 =>
      if p2 = (30 : Int32) then
        J3
      else
        if p2 = (31 : Int32) then
          J3
        else
          if (fX12_isLine p2 h) = 0 then
            some ((-1 : Int64), h)
          else
            J3)
theorem sX12_order (p1 : Int32) (p2 : Int32) (h : AH) : Sim RX12 cX12_order 10 (some .long) 6 (Option.map oJ) (fX12_order p1 p2 h) 0 [(0, .ref 75), (1, .int p1), (2, .int p2)] [] h := by
  unfold fX12_order
  refine sim_iload_n 1 rfl dX12_order_0 ?_
  refine sim_cS (As := [.int p1]) (st := []) (r := (some (.int (fX12_isHearer p1 h)))) (h1 := h) (okX12_isHearer p1 h) (fun _ => rfl) mlX12_321 mtX12_isHearer rfl (Nat.le_of_ble_eq_true rfl) rfl (Nat.le_of_ble_eq_true rfl) dX12_order_1 ?_
  refine sim_if_eq (tgt := 34) dX12_order_4 (by decide) (fun c1 => ?_) (fun c1 => ?_)
  · refine sim_ldc2 kcX12_382 dX12_order_34 ?_
    exact sim_lret rfl rfl dX12_order_37
  · refine sim_aload_n 0 rfl dX12_order_7 ?_
    refine sim_getI flX12_145 rfl rfl dX12_order_8 ?_
    refine sim_if_eq (tgt := 34) dX12_order_11 (by decide) (fun c2 => ?_) (fun c2 => ?_)
    · refine sim_ldc2 kcX12_382 dX12_order_34 ?_
      exact sim_lret rfl rfl dX12_order_37
    · refine sim_iload_n 2 rfl dX12_order_14 ?_
      refine sim_bipush (v := 30) (by decide) dX12_order_15 ?_
      refine sim_letJ (fun J3 => Sim RX12 cX12_order 10 (some .long) 6 (Option.map oJ) (J3) 38 [(0, .ref 75), (1, .int p1), (2, .int p2)] [] h) (?_) (fun J3 hJ3 => ?_)
      · refine sim_aload_n 0 rfl dX12_order_38 ?_
        refine sim_iload_n 1 rfl dX12_order_39 ?_
        refine sim_bind (fun b4 e5 => ?_)
        refine sim_cV (As := [.int p1]) (st := []) (r := none) (h1 := b4) (okX12_laysOrder p1 h b4 e5) (fun _ => rfl) mlX12_384 mtX12_laysOrder rfl rfl rfl rfl (Nat.le_of_ble_eq_true rfl) rfl (Nat.le_of_ble_eq_true rfl) dX12_order_40 ?_
        refine sim_iload_n 2 rfl dX12_order_43 ?_
        refine sim_bipush (v := 30) (by decide) dX12_order_44 ?_
        refine sim_icmp_ge (tgt := 57) dX12_order_46 (by decide) (fun c6 => ?_) (fun c6 => ?_)
        · refine sim_lconst (v := 0) (by decide) dX12_order_57 ?_
          refine sim_lstore_n (L' := [(3, .long (0 : Int64)), (0, .ref 75), (1, .int p1), (2, .int p2)]) rfl (by decide) dX12_order_58 ?_
          refine sim_lconst (v := 0) (by decide) dX12_order_59 ?_
          refine sim_lstore (L' := [(5, .long (0 : Int64)), (3, .long (0 : Int64)), (0, .ref 75), (1, .int p1), (2, .int p2)]) rfl (by decide) dX12_order_60 ?_
          refine sim_iconst (v := 0) (by decide) dX12_order_62 ?_
          refine sim_istore (L' := [(7, .int (0 : Int32)), (5, .long (0 : Int64)), (3, .long (0 : Int64)), (0, .ref 75), (1, .int p1), (2, .int p2)]) rfl (by decide) dX12_order_63 ?_
          refine sim_iconst (v := 0) (by decide) dX12_order_65 ?_
          refine sim_istore (L' := [(8, .int (0 : Int32)), (7, .int (0 : Int32)), (5, .long (0 : Int64)), (3, .long (0 : Int64)), (0, .ref 75), (1, .int p1), (2, .int p2)]) rfl (by decide) dX12_order_66 ?_
          refine sim_sub [4, 6, 3, 2, 1, 0] rfl ?_
          refine sX12_order_l68 (fun y17 y18 => ?_) _ (0 : Int64) (0 : Int64) (0 : Int32) (0 : Int32)
          · refine sim_lload 2 rfl dX12_order_138 ?_
            refine sim_lconst (v := 0) (by decide) dX12_order_140 ?_
            refine sim_lcmp dX12_order_141 ?_
            refine sim_if_ne (tgt := 157) dX12_order_142 (by decide) (fun c19 => ?_) (fun c19 => ?_)
            · refine sim_lload_n 1 rfl dX12_order_157 ?_
              refine sim_lload 2 rfl dX12_order_158 ?_
              refine sim_bind (fun b20 e21 => ?_)
              refine sim_cS (As := [.long y17, .long y18]) (st := []) (r := (some (.long b20))) (h1 := b4) (okX12_gcd y17 y18 b4 b20 e21) (fun _ => rfl) mlX12_387 mtX12_gcd rfl (Nat.le_of_ble_eq_true rfl) rfl (Nat.le_of_ble_eq_true rfl) dX12_order_160 ?_
              refine sim_lstore (L' := [(8, .long b20), (2, .int p2), (3, .long y17), (5, .long y18)]) rfl (by decide) dX12_order_163 ?_
              refine sim_iload_n 1 rfl dX12_order_165 ?_
              refine sim_bipush (v := 30) (by decide) dX12_order_166 ?_
              refine sim_icmp_ne (tgt := 178) dX12_order_168 (by decide) (fun c22 => ?_) (fun c22 => ?_)
              · refine sim_lload 3 rfl dX12_order_178 ?_
                refine sim_lload 0 rfl dX12_order_180 ?_
                refine sim_nguard (fun c23 => ?_)
                refine sim_ldiv c23 dX12_order_182 ?_
                exact sim_lret rfl rfl dX12_order_183
              · refine sim_lload_n 2 rfl dX12_order_171 ?_
                refine sim_lload 0 rfl dX12_order_172 ?_
                refine sim_nguard (fun c24 => ?_)
                refine sim_ldiv c24 dX12_order_174 ?_
                refine sim_goto (tgt := 183) dX12_order_175 (by decide) ?_
                exact sim_lret rfl rfl dX12_order_183
            · refine sim_iload_n 0 rfl dX12_order_145 ?_
              refine sim_bipush (v := 30) (by decide) dX12_order_146 ?_
              refine sim_icmp_ne (tgt := 155) dX12_order_148 (by decide) (fun c25 => ?_) (fun c25 => ?_)
              · refine sim_lconst (v := 1) (by decide) dX12_order_155 ?_
                exact sim_lret rfl rfl dX12_order_156
              · refine sim_lconst (v := 0) (by decide) dX12_order_151 ?_
                refine sim_goto (tgt := 156) dX12_order_152 (by decide) ?_
                exact sim_lret rfl rfl dX12_order_156
        · refine sim_aload_n 0 rfl dX12_order_49 ?_
          refine sim_getR flX12_107 rfl rfl dX12_order_50 ?_
          refine sim_iload_n 2 rfl dX12_order_53 ?_
          refine sim_nguard (fun c26 => ?_)
          refine sim_iald rfl c26 dX12_order_54 ?_
          refine sim_i2l dX12_order_55 ?_
          exact sim_lret rfl rfl dX12_order_56
      refine sim_icmp_eq (tgt := 38) dX12_order_17 (by decide) (fun c27 => ?_) (fun c27 => ?_)
      · exact hJ3
      · refine sim_iload_n 2 rfl dX12_order_20 ?_
        refine sim_bipush (v := 31) (by decide) dX12_order_21 ?_
        refine sim_icmp_eq (tgt := 38) dX12_order_23 (by decide) (fun c28 => ?_) (fun c28 => ?_)
        · exact hJ3
        · refine sim_aload_n 0 rfl dX12_order_26 ?_
          refine sim_iload_n 2 rfl dX12_order_27 ?_
          refine sim_cV (As := [.int p2]) (st := []) (r := (some (.int (fX12_isLine p2 h)))) (h1 := h) (okX12_isLine p2 h) (fun _ => rfl) mlX12_209 mtX12_isLine rfl rfl rfl rfl (Nat.le_of_ble_eq_true rfl) rfl (Nat.le_of_ble_eq_true rfl) dX12_order_28 ?_
          refine sim_if_ne (tgt := 38) dX12_order_31 (by decide) (fun c29 => ?_) (fun c29 => ?_)
          · exact hJ3
          · refine sim_ldc2 kcX12_382 dX12_order_34 ?_
            exact sim_lret rfl rfl dX12_order_37
theorem okX12_order (p1 : Int32) (p2 : Int32) (h : AH) (b : Int64 × AH) (e : fX12_order p1 p2 h = some b) : Ok yX12_order cX12_order 10 (some .long) 6 [.ref 75, .int p1, .int p2] h (some (.long b.1), b.2) := ok_of (sX12_order p1 p2 h) (by rw [e]; rfl) (by decide +kernel) (Nat.le_of_ble_eq_true rfl)
end
