noncomputable section
def fX12_seed (p1 : Int32) (h : AH) : Int32 × AH :=
  if (fX12_in p1 (0 : Int32) (65535 : Int32) h) = 0 then
    ((0 : Int32), h)
  else
    letT (sI h 75 1 p1) (fun g2 =>
    ((1 : Int32), g2))
theorem sX12_seed (p1 : Int32) (h : AH) : Sim RX12 cX12_seed 2 (some .boolean) 2 (tP) (fX12_seed p1 h) 0 [(0, .ref 75), (1, .int p1)] [] h := by
  unfold fX12_seed
  refine sim_iload_n 1 rfl dX12_seed_0 ?_
  refine sim_iconst (v := 0) (by decide) dX12_seed_1 ?_
  refine sim_ldcw kcX12_391 dX12_seed_2 ?_
  refine sim_cS (As := [.int p1, .int (0 : Int32), .int (65535 : Int32)]) (st := []) (r := (some (.int (fX12_in p1 (0 : Int32) (65535 : Int32) h)))) (h1 := h) (okX12_in p1 (0 : Int32) (65535 : Int32) h) (fun _ => rfl) mlX12_141 mtX12_in rfl (Nat.le_of_ble_eq_true rfl) rfl (Nat.le_of_ble_eq_true rfl) dX12_seed_5 ?_
  refine sim_if_ne (tgt := 13) dX12_seed_8 (by decide) (fun c1 => ?_) (fun c1 => ?_)
  · refine sim_aload_n 0 rfl dX12_seed_13 ?_
    refine sim_iload_n 1 rfl dX12_seed_14 ?_
    refine sim_putI fpX12_138 rfl rfl rfl rfl dX12_seed_15 ?_
    refine sim_nmH (fun g2 => ?_)
    refine sim_iconst (v := 1) (by decide) dX12_seed_18 ?_
    exact sim_zret rfl rfl rfl dX12_seed_19
  · refine sim_iconst (v := 0) (by decide) dX12_seed_11 ?_
    exact sim_zret rfl rfl rfl dX12_seed_12
theorem okX12_seed (p1 : Int32) (h : AH) : Ok yX12_seed cX12_seed 2 (some .boolean) 2 [.ref 75, .int p1] h (some (.int (fX12_seed p1 h).1), (fX12_seed p1 h).2) := ok_of (sX12_seed p1 h) rfl (by decide +kernel) (Nat.le_of_ble_eq_true rfl)
def fX12_works_l16b (rec : Int32 → AH → Option AH) (x3 : Int32) (h : AH) : Option AH :=
  if x3 < (h.1 75 2) then
    if x3 < 0 ∨ 20 ≤ x3.toNatClampNeg then none else
    if x3 < 0 ∨ 20 ≤ x3.toNatClampNeg then none else
    letT (sI h 77 x3.toNatClampNeg (h.1 88 x3.toNatClampNeg)) (fun g6 =>
    rec (x3 + 1) g6)
  else
    some h
def fX12_works_l16 : Nat → Int32 → AH → Option AH
  | 0, _, _ => none
  | n + 1, x3, h => fX12_works_l16b (fX12_works_l16 n) x3 h
theorem sX12_works_l16b {rec : Int32 → AH → Option AH} (hR : ∀ (x3 : Int32) (h : AH), Sim RX12 cX12_works 4 none 3 (Option.map oV) (rec x3 h) 16 [(0, .ref 75), (3, .int x3)] [] h) : ∀ (x3 : Int32) (h : AH), Sim RX12 cX12_works 4 none 3 (Option.map oV) (fX12_works_l16b rec x3 h) 16 [(0, .ref 75), (3, .int x3)] [] h := by
  intro x3 h
  unfold fX12_works_l16b
  refine sim_iload_n 1 rfl dX12_works_16 ?_
  refine sim_aload_n 0 rfl dX12_works_17 ?_
  refine sim_getI flX12_145 rfl rfl dX12_works_18 ?_
  refine sim_icmp_ge (tgt := 42) dX12_works_21 (by decide) (fun c3 => ?_) (fun c3 => ?_)
  · exact sim_vret rfl rfl dX12_works_42
  · refine sim_aload_n 0 rfl dX12_works_24 ?_
    refine sim_getR flX12_13 rfl rfl dX12_works_25 ?_
    refine sim_iload_n 1 rfl dX12_works_28 ?_
    refine sim_aload_n 0 rfl dX12_works_29 ?_
    refine sim_getR flX12_47 rfl rfl dX12_works_30 ?_
    refine sim_iload_n 1 rfl dX12_works_33 ?_
    refine sim_nguard (fun c4 => ?_)
    refine sim_iald rfl c4 dX12_works_34 ?_
    refine sim_nguard (fun c5 => ?_)
    refine sim_iast rfl c5 dX12_works_35 ?_
    refine sim_nmH (fun g6 => ?_)
    refine sim_iinc (v := x3 + 1) (L' := [(3, .int (x3 + 1)), (0, .ref 75)]) 1 rfl rfl rfl (by decide) dX12_works_36 ?_
    refine sim_goto (tgt := 16) dX12_works_39 (by decide) ?_
    refine sim_sub [1, 0] rfl ?_
    exact hR (x3 + 1) g6
theorem sX12_works_l16 : ∀ (n : Nat) (x3 : Int32) (h : AH), Sim RX12 cX12_works 4 none 3 (Option.map oV) (fX12_works_l16 n x3 h) 16 [(0, .ref 75), (3, .int x3)] [] h := by
  intro n
  induction n with
  | zero => intro x3 h; exact sim_none
  | succ n ih => intro x3 h; exact sX12_works_l16b ih x3 h
def fX12_works (p1 : Int32) (p2 : Int32) (h : AH) : Option AH :=
  (fX12_slips 77 88 p1 p2 h).bind (fun b1 =>
  fX12_works_l16 fuel0 (0 : Int32) b1)
theorem sX12_works (p1 : Int32) (p2 : Int32) (h : AH) : Sim RX12 cX12_works 4 none 3 (Option.map oV) (fX12_works p1 p2 h) 0 [(0, .ref 75), (1, .int p1), (2, .int p2)] [] h := by
  unfold fX12_works
  refine sim_aload_n 0 rfl dX12_works_0 ?_
  refine sim_aload_n 0 rfl dX12_works_1 ?_
  refine sim_getR flX12_13 rfl rfl dX12_works_2 ?_
  refine sim_aload_n 0 rfl dX12_works_5 ?_
  refine sim_getR flX12_47 rfl rfl dX12_works_6 ?_
  refine sim_iload_n 1 rfl dX12_works_9 ?_
  refine sim_iload_n 2 rfl dX12_works_10 ?_
  refine sim_bind (fun b1 e2 => ?_)
  refine sim_cV (As := [.ref 77, .ref 88, .int p1, .int p2]) (st := []) (r := none) (h1 := b1) (okX12_slips 77 rfl 88 rfl p1 p2 h b1 e2) (fun _ => rfl) mlX12_228 mtX12_slips rfl rfl rfl rfl (Nat.le_of_ble_eq_true rfl) rfl (Nat.le_of_ble_eq_true rfl) dX12_works_11 ?_
  refine sim_iconst (v := 0) (by decide) dX12_works_14 ?_
  refine sim_istore_n (L' := [(3, .int (0 : Int32)), (0, .ref 75), (1, .int p1), (2, .int p2)]) rfl (by decide) dX12_works_15 ?_
  refine sim_sub [1, 0] rfl ?_
  refine sX12_works_l16 _ (0 : Int32) b1
theorem okX12_works (p1 : Int32) (p2 : Int32) (h : AH) (b : AH) (e : fX12_works p1 p2 h = some b) : Ok yX12_works cX12_works 4 none 3 [.ref 75, .int p1, .int p2] h (none, b) := ok_of (sX12_works p1 p2 h) (by rw [e]; rfl) (by decide +kernel) (Nat.le_of_ble_eq_true rfl)
def fX12_copied_l23b (rec : Int32 → Int32 → AH → Option (Int32 × AH)) (x1 : Int32) (x2 : Int32) (x3 : Int32) (h : AH) : Option (Int32 × AH) :=
  if x3 < x1 then
    letT (sI h 75 1 (jrem (((25173 : Int32) * (h.1 75 1)) + (13849 : Int32)) (65536 : Int32))) (fun g4 =>
    if (g4.1 75 2) = 0 then none else
    letT (jrem (g4.1 75 1) (g4.1 75 2)) (fun v6 =>
    if v6 < 0 ∨ 20 ≤ v6.toNatClampNeg then none else
    (fX12_feels v6 (g4.1 77 v6.toNatClampNeg) (0 : Int32) g4).bind (fun b8 =>
    (fX12_byLaw (99 : Int32) (10 : Int32) b8).bind (fun b10 =>
    if (jrem ((b8.1 75 1) / (32 : Int32)) (10 : Int32)) < b10.1 then
      if v6 < 0 ∨ 20 ≤ v6.toNatClampNeg then none else
      if ((b10.2.1 75 0) - (1 : Int32)) = 0 then none else
      if (b10.2.1 75 0) = 0 then none else
      (fX12_works v6 (jrem (((b10.2.1 77 v6.toNatClampNeg) + (1 : Int32)) + (jrem ((b10.2.1 75 1) / (512 : Int32)) ((b10.2.1 75 0) - (1 : Int32)))) (b10.2.1 75 0)) b10.2).bind (fun b16 =>
      letT (x2 + (1 : Int32)) (fun v18 =>
      rec v18 (x3 + 1) b16))
    else
      rec x2 (x3 + 1) b10.2))))
  else
    some (x2, h)
def fX12_copied_l23 (x1 : Int32) : Nat → Int32 → Int32 → AH → Option (Int32 × AH)
  | 0, _, _, _ => none
  | n + 1, x2, x3, h => fX12_copied_l23b (fX12_copied_l23 x1 n) x1 x2 x3 h
theorem sX12_copied_l23b {rec : Int32 → Int32 → AH → Option (Int32 × AH)} {x1 : Int32} (hR : ∀ (x2 : Int32) (x3 : Int32) (h : AH), Sim RX12 cX12_copied 5 (some .int) 4 (Option.map oI) (rec x2 x3 h) 23 [(0, .ref 75), (1, .int x1), (2, .int x2), (3, .int x3)] [] h) : ∀ (x2 : Int32) (x3 : Int32) (h : AH), Sim RX12 cX12_copied 5 (some .int) 4 (Option.map oI) (fX12_copied_l23b rec x1 x2 x3 h) 23 [(0, .ref 75), (1, .int x1), (2, .int x2), (3, .int x3)] [] h := by
  intro x2 x3 h
  unfold fX12_copied_l23b
  refine sim_iload_n 3 rfl dX12_copied_23 ?_
  refine sim_iload_n 1 rfl dX12_copied_24 ?_
  refine sim_icmp_ge (tgt := 143) dX12_copied_25 (by decide) (fun c3 => ?_) (fun c3 => ?_)
  · refine sim_iload_n 2 rfl dX12_copied_143 ?_
    exact sim_iret rfl rfl dX12_copied_144
  · refine sim_aload_n 0 rfl dX12_copied_28 ?_
    refine sim_sipush (v := 25173) (by decide) dX12_copied_29 ?_
    refine sim_aload_n 0 rfl dX12_copied_32 ?_
    refine sim_getI flX12_138 rfl rfl dX12_copied_33 ?_
    refine sim_imul dX12_copied_36 ?_
    refine sim_sipush (v := 13849) (by decide) dX12_copied_37 ?_
    refine sim_iadd dX12_copied_40 ?_
    refine sim_ldcw kcX12_392 dX12_copied_41 ?_
    refine sim_irem (by decide) dX12_copied_44 ?_
    refine sim_putI fpX12_138 rfl rfl rfl rfl dX12_copied_45 ?_
    refine sim_nmH (fun g4 => ?_)
    refine sim_aload_n 0 rfl dX12_copied_48 ?_
    refine sim_getI flX12_138 rfl rfl dX12_copied_49 ?_
    refine sim_aload_n 0 rfl dX12_copied_52 ?_
    refine sim_getI flX12_145 rfl rfl dX12_copied_53 ?_
    refine sim_nguard (fun c5 => ?_)
    refine sim_irem c5 dX12_copied_56 ?_
    refine sim_nmI (fun v6 => ?_)
    refine sim_istore (L' := [(4, .int v6), (0, .ref 75), (1, .int x1), (2, .int x2), (3, .int x3)]) rfl (by decide) dX12_copied_57 ?_
    refine sim_aload_n 1 rfl dX12_copied_59 ?_
    refine sim_iload 0 rfl dX12_copied_60 ?_
    refine sim_aload_n 1 rfl dX12_copied_62 ?_
    refine sim_getR flX12_13 rfl rfl dX12_copied_63 ?_
    refine sim_iload 0 rfl dX12_copied_66 ?_
    refine sim_nguard (fun c7 => ?_)
    refine sim_iald rfl c7 dX12_copied_68 ?_
    refine sim_iconst (v := 0) (by decide) dX12_copied_69 ?_
    refine sim_bind (fun b8 e9 => ?_)
    refine sim_cV (As := [.int v6, .int (g4.1 77 v6.toNatClampNeg), .int (0 : Int32)]) (st := []) (r := none) (h1 := b8) (okX12_feels v6 (g4.1 77 v6.toNatClampNeg) (0 : Int32) g4 b8 e9) (fun _ => rfl) mlX12_311 mtX12_feels rfl rfl rfl rfl (Nat.le_of_ble_eq_true rfl) rfl (Nat.le_of_ble_eq_true rfl) dX12_copied_70 ?_
    refine sim_aload_n 1 rfl dX12_copied_73 ?_
    refine sim_getI flX12_138 rfl rfl dX12_copied_74 ?_
    refine sim_bipush (v := 32) (by decide) dX12_copied_77 ?_
    refine sim_idiv (by decide) dX12_copied_79 ?_
    refine sim_bipush (v := 10) (by decide) dX12_copied_80 ?_
    refine sim_irem (by decide) dX12_copied_82 ?_
    refine sim_aload_n 1 rfl dX12_copied_83 ?_
    refine sim_bipush (v := 99) (by decide) dX12_copied_84 ?_
    refine sim_bipush (v := 10) (by decide) dX12_copied_86 ?_
    refine sim_bind (fun b10 e11 => ?_)
    refine sim_cV (As := [.int (99 : Int32), .int (10 : Int32)]) (st := [.int (jrem ((b8.1 75 1) / (32 : Int32)) (10 : Int32))]) (r := (some (.int b10.1))) (h1 := b10.2) (okX12_byLaw (99 : Int32) (10 : Int32) b8 b10 e11) (fun _ => rfl) mlX12_318 mtX12_byLaw rfl rfl rfl rfl (Nat.le_of_ble_eq_true rfl) rfl (Nat.le_of_ble_eq_true rfl) dX12_copied_88 ?_
    refine sim_icmp_lt (tgt := 97) dX12_copied_91 (by decide) (fun c12 => ?_) (fun c12 => ?_)
    · refine sim_aload_n 1 rfl dX12_copied_97 ?_
      refine sim_iload 0 rfl dX12_copied_98 ?_
      refine sim_aload_n 1 rfl dX12_copied_100 ?_
      refine sim_getR flX12_13 rfl rfl dX12_copied_101 ?_
      refine sim_iload 0 rfl dX12_copied_104 ?_
      refine sim_nguard (fun c13 => ?_)
      refine sim_iald rfl c13 dX12_copied_106 ?_
      refine sim_iconst (v := 1) (by decide) dX12_copied_107 ?_
      refine sim_iadd dX12_copied_108 ?_
      refine sim_aload_n 1 rfl dX12_copied_109 ?_
      refine sim_getI flX12_138 rfl rfl dX12_copied_110 ?_
      refine sim_sipush (v := 512) (by decide) dX12_copied_113 ?_
      refine sim_idiv (by decide) dX12_copied_116 ?_
      refine sim_aload_n 1 rfl dX12_copied_117 ?_
      refine sim_getI flX12_134 rfl rfl dX12_copied_118 ?_
      refine sim_iconst (v := 1) (by decide) dX12_copied_121 ?_
      refine sim_isub dX12_copied_122 ?_
      refine sim_nguard (fun c14 => ?_)
      refine sim_irem c14 dX12_copied_123 ?_
      refine sim_iadd dX12_copied_124 ?_
      refine sim_aload_n 1 rfl dX12_copied_125 ?_
      refine sim_getI flX12_134 rfl rfl dX12_copied_126 ?_
      refine sim_nguard (fun c15 => ?_)
      refine sim_irem c15 dX12_copied_129 ?_
      refine sim_bind (fun b16 e17 => ?_)
      refine sim_cV (As := [.int v6, .int (jrem (((b10.2.1 77 v6.toNatClampNeg) + (1 : Int32)) + (jrem ((b10.2.1 75 1) / (512 : Int32)) ((b10.2.1 75 0) - (1 : Int32)))) (b10.2.1 75 0))]) (st := []) (r := none) (h1 := b16) (okX12_works v6 (jrem (((b10.2.1 77 v6.toNatClampNeg) + (1 : Int32)) + (jrem ((b10.2.1 75 1) / (512 : Int32)) ((b10.2.1 75 0) - (1 : Int32)))) (b10.2.1 75 0)) b10.2 b16 e17) (fun _ => rfl) mlX12_393 mtX12_works rfl rfl rfl rfl (Nat.le_of_ble_eq_true rfl) rfl (Nat.le_of_ble_eq_true rfl) dX12_copied_130 ?_
      refine sim_iload_n 3 rfl dX12_copied_133 ?_
      refine sim_iconst (v := 1) (by decide) dX12_copied_134 ?_
      refine sim_iadd dX12_copied_135 ?_
      refine sim_nmI (fun v18 => ?_)
      refine sim_istore_n (L' := [(2, .int v18), (4, .int v6), (0, .ref 75), (1, .int x1), (3, .int x3)]) rfl (by decide) dX12_copied_136 ?_
      refine sim_iinc (v := x3 + 1) (L' := [(3, .int (x3 + 1)), (2, .int v18), (4, .int v6), (0, .ref 75), (1, .int x1)]) 4 rfl rfl rfl (by decide) dX12_copied_137 ?_
      refine sim_goto (tgt := 23) dX12_copied_140 (by decide) ?_
      refine sim_sub [3, 4, 1, 0] rfl ?_
      exact hR v18 (x3 + 1) b16
    · refine sim_goto (tgt := 137) dX12_copied_94 (by decide) ?_
      refine sim_iinc (v := x3 + 1) (L' := [(3, .int (x3 + 1)), (4, .int v6), (0, .ref 75), (1, .int x1), (2, .int x2)]) 4 rfl rfl rfl (by decide) dX12_copied_137 ?_
      refine sim_goto (tgt := 23) dX12_copied_140 (by decide) ?_
      refine sim_sub [2, 3, 4, 0] rfl ?_
      exact hR x2 (x3 + 1) b10.2
theorem sX12_copied_l23 {x1 : Int32} : ∀ (n : Nat) (x2 : Int32) (x3 : Int32) (h : AH), Sim RX12 cX12_copied 5 (some .int) 4 (Option.map oI) (fX12_copied_l23 x1 n x2 x3 h) 23 [(0, .ref 75), (1, .int x1), (2, .int x2), (3, .int x3)] [] h := by
  intro n
  induction n with
  | zero => intro x2 x3 h; exact sim_none
  | succ n ih => intro x2 x3 h; exact sX12_copied_l23b ih x2 x3 h
def fX12_copied (p1 : Int32) (h : AH) : Option (Int32 × AH) :=
  if (fX12_in p1 (1 : Int32) (20 : Int32) h) = 0 then
    some ((-1 : Int32), h)
  else
    if (h.1 75 2) = 0 then
      some ((-1 : Int32), h)
    else
      fX12_copied_l23 p1 fuel0 (0 : Int32) (0 : Int32) h
theorem sX12_copied (p1 : Int32) (h : AH) : Sim RX12 cX12_copied 5 (some .int) 4 (Option.map oI) (fX12_copied p1 h) 0 [(0, .ref 75), (1, .int p1)] [] h := by
  unfold fX12_copied
  refine sim_iload_n 1 rfl dX12_copied_0 ?_
  refine sim_iconst (v := 1) (by decide) dX12_copied_1 ?_
  refine sim_bipush (v := 20) (by decide) dX12_copied_2 ?_
  refine sim_cS (As := [.int p1, .int (1 : Int32), .int (20 : Int32)]) (st := []) (r := (some (.int (fX12_in p1 (1 : Int32) (20 : Int32) h)))) (h1 := h) (okX12_in p1 (1 : Int32) (20 : Int32) h) (fun _ => rfl) mlX12_141 mtX12_in rfl (Nat.le_of_ble_eq_true rfl) rfl (Nat.le_of_ble_eq_true rfl) dX12_copied_4 ?_
  refine sim_if_eq (tgt := 17) dX12_copied_7 (by decide) (fun c1 => ?_) (fun c1 => ?_)
  · refine sim_iconst (v := -1) (by decide) dX12_copied_17 ?_
    exact sim_iret rfl rfl dX12_copied_18
  · refine sim_aload_n 0 rfl dX12_copied_10 ?_
    refine sim_getI flX12_145 rfl rfl dX12_copied_11 ?_
    refine sim_if_ne (tgt := 19) dX12_copied_14 (by decide) (fun c2 => ?_) (fun c2 => ?_)
    · refine sim_iconst (v := 0) (by decide) dX12_copied_19 ?_
      refine sim_istore_n (L' := [(2, .int (0 : Int32)), (0, .ref 75), (1, .int p1)]) rfl (by decide) dX12_copied_20 ?_
      refine sim_iconst (v := 0) (by decide) dX12_copied_21 ?_
      refine sim_istore_n (L' := [(3, .int (0 : Int32)), (2, .int (0 : Int32)), (0, .ref 75), (1, .int p1)]) rfl (by decide) dX12_copied_22 ?_
      refine sim_sub [2, 3, 1, 0] rfl ?_
      refine sX12_copied_l23 _ (0 : Int32) (0 : Int32) h
    · refine sim_iconst (v := -1) (by decide) dX12_copied_17 ?_
      exact sim_iret rfl rfl dX12_copied_18
theorem okX12_copied (p1 : Int32) (h : AH) (b : Int32 × AH) (e : fX12_copied p1 h = some b) : Ok yX12_copied cX12_copied 5 (some .int) 4 [.ref 75, .int p1] h (some (.int b.1), b.2) := ok_of (sX12_copied p1 h) (by rw [e]; rfl) (by decide +kernel) (Nat.le_of_ble_eq_true rfl)
def fX12_comesFrom_l2b (rec : Int32 → AH → Option (Int32 × AH)) (K35 : AH → Option (Int32 × AH)) (x1 : Int32) (x2 : Int32) (h : AH) : Option (Int32 × AH) :=
  if x2 < (h.1 75 2) then
    if (((h.1 75 2) * x1) + x2) < 0 ∨ 100 ≤ (((h.1 75 2) * x1) + x2).toNatClampNeg then none else
    if x2 < 0 ∨ 20 ≤ x2.toNatClampNeg then none else
    letT (sI h 110 x2.toNatClampNeg (h.1 109 (((h.1 75 2) * x1) + x2).toNatClampNeg)) (fun g4 =>
    rec (x2 + 1) g4)
  else
    K35 h
def fX12_comesFrom_l2 (K35 : AH → Option (Int32 × AH)) (x1 : Int32) : Nat → Int32 → AH → Option (Int32 × AH)
  | 0, _, _ => none
  | n + 1, x2, h => fX12_comesFrom_l2b (fX12_comesFrom_l2 K35 x1 n) K35 x1 x2 h
theorem sX12_comesFrom_l2b {rec : Int32 → AH → Option (Int32 × AH)} {K35 : AH → Option (Int32 × AH)} {x1 : Int32} (hR : ∀ (x2 : Int32) (h : AH), Sim RX12 cX12_comesFrom 4 (some .boolean) 2 (Option.map oI) (rec x2 h) 2 [(0, .ref 75), (1, .int x1), (2, .int x2)] [] h) (hK35 : ∀ (g : AH), Sim RX12 cX12_comesFrom 4 (some .boolean) 2 (Option.map oI) (K35 g) 35 [(0, .ref 75)] [] g) : ∀ (x2 : Int32) (h : AH), Sim RX12 cX12_comesFrom 4 (some .boolean) 2 (Option.map oI) (fX12_comesFrom_l2b rec K35 x1 x2 h) 2 [(0, .ref 75), (1, .int x1), (2, .int x2)] [] h := by
  intro x2 h
  unfold fX12_comesFrom_l2b
  refine sim_iload_n 2 rfl dX12_comesFrom_2 ?_
  refine sim_aload_n 0 rfl dX12_comesFrom_3 ?_
  refine sim_getI flX12_145 rfl rfl dX12_comesFrom_4 ?_
  refine sim_icmp_ge (tgt := 35) dX12_comesFrom_7 (by decide) (fun c1 => ?_) (fun c1 => ?_)
  · refine sim_sub [0] rfl ?_
    exact hK35 h
  · refine sim_aload_n 0 rfl dX12_comesFrom_10 ?_
    refine sim_getR flX12_113 rfl rfl dX12_comesFrom_11 ?_
    refine sim_iload_n 2 rfl dX12_comesFrom_14 ?_
    refine sim_aload_n 0 rfl dX12_comesFrom_15 ?_
    refine sim_getR flX12_110 rfl rfl dX12_comesFrom_16 ?_
    refine sim_aload_n 0 rfl dX12_comesFrom_19 ?_
    refine sim_getI flX12_145 rfl rfl dX12_comesFrom_20 ?_
    refine sim_iload_n 1 rfl dX12_comesFrom_23 ?_
    refine sim_imul dX12_comesFrom_24 ?_
    refine sim_iload_n 2 rfl dX12_comesFrom_25 ?_
    refine sim_iadd dX12_comesFrom_26 ?_
    refine sim_nguard (fun c2 => ?_)
    refine sim_iald rfl c2 dX12_comesFrom_27 ?_
    refine sim_nguard (fun c3 => ?_)
    refine sim_iast rfl c3 dX12_comesFrom_28 ?_
    refine sim_nmH (fun g4 => ?_)
    refine sim_iinc (v := x2 + 1) (L' := [(2, .int (x2 + 1)), (0, .ref 75), (1, .int x1)]) 2 rfl rfl rfl (by decide) dX12_comesFrom_29 ?_
    refine sim_goto (tgt := 2) dX12_comesFrom_32 (by decide) ?_
    refine sim_sub [1, 2, 0] rfl ?_
    exact hR (x2 + 1) g4
theorem sX12_comesFrom_l2 {K35 : AH → Option (Int32 × AH)} {x1 : Int32} (hK35 : ∀ (g : AH), Sim RX12 cX12_comesFrom 4 (some .boolean) 2 (Option.map oI) (K35 g) 35 [(0, .ref 75)] [] g) : ∀ (n : Nat) (x2 : Int32) (h : AH), Sim RX12 cX12_comesFrom 4 (some .boolean) 2 (Option.map oI) (fX12_comesFrom_l2 K35 x1 n x2 h) 2 [(0, .ref 75), (1, .int x1), (2, .int x2)] [] h := by
  intro n
  induction n with
  | zero => intro x2 h; exact sim_none
  | succ n ih => intro x2 h; exact sX12_comesFrom_l2b ih hK35 x2 h
def fX12_comesFrom_l37b (rec : Int32 → Option (Int32 × AH)) (K67 : Int32 → Option (Int32 × AH)) (h : AH) (x2 : Int32) : Option (Int32 × AH) :=
  if x2 < (h.1 75 2) then
    if x2 < 0 ∨ 20 ≤ x2.toNatClampNeg then none else
    if x2 < 0 ∨ 20 ≤ x2.toNatClampNeg then none else
    if (h.1 110 x2.toNatClampNeg) = (h.1 88 x2.toNatClampNeg) then
      letT (x2 + (1 : Int32)) (fun v10 =>
      rec v10)
    else
      K67 x2
  else
    K67 x2
def fX12_comesFrom_l37 (K67 : Int32 → Option (Int32 × AH)) (h : AH) : Nat → Int32 → Option (Int32 × AH)
  | 0, _ => none
  | n + 1, x2 => fX12_comesFrom_l37b (fX12_comesFrom_l37 K67 h n) K67 h x2
theorem sX12_comesFrom_l37b {rec : Int32 → Option (Int32 × AH)} {K67 : Int32 → Option (Int32 × AH)} {h : AH} (hR : ∀ (x2 : Int32), Sim RX12 cX12_comesFrom 4 (some .boolean) 2 (Option.map oI) (rec x2) 37 [(0, .ref 75), (2, .int x2)] [] h) (hK67 : ∀ (y2 : Int32), Sim RX12 cX12_comesFrom 4 (some .boolean) 2 (Option.map oI) (K67 y2) 67 [(0, .ref 75), (2, .int y2)] [] h) : ∀ (x2 : Int32), Sim RX12 cX12_comesFrom 4 (some .boolean) 2 (Option.map oI) (fX12_comesFrom_l37b rec K67 h x2) 37 [(0, .ref 75), (2, .int x2)] [] h := by
  intro x2
  unfold fX12_comesFrom_l37b
  refine sim_iload_n 1 rfl dX12_comesFrom_37 ?_
  refine sim_aload_n 0 rfl dX12_comesFrom_38 ?_
  refine sim_getI flX12_145 rfl rfl dX12_comesFrom_39 ?_
  refine sim_icmp_ge (tgt := 67) dX12_comesFrom_42 (by decide) (fun c6 => ?_) (fun c6 => ?_)
  · exact hK67 x2
  · refine sim_aload_n 0 rfl dX12_comesFrom_45 ?_
    refine sim_getR flX12_113 rfl rfl dX12_comesFrom_46 ?_
    refine sim_iload_n 1 rfl dX12_comesFrom_49 ?_
    refine sim_nguard (fun c7 => ?_)
    refine sim_iald rfl c7 dX12_comesFrom_50 ?_
    refine sim_aload_n 0 rfl dX12_comesFrom_51 ?_
    refine sim_getR flX12_47 rfl rfl dX12_comesFrom_52 ?_
    refine sim_iload_n 1 rfl dX12_comesFrom_55 ?_
    refine sim_nguard (fun c8 => ?_)
    refine sim_iald rfl c8 dX12_comesFrom_56 ?_
    refine sim_icmp_ne (tgt := 67) dX12_comesFrom_57 (by decide) (fun c9 => ?_) (fun c9 => ?_)
    · exact hK67 x2
    · refine sim_iload_n 1 rfl dX12_comesFrom_60 ?_
      refine sim_iconst (v := 1) (by decide) dX12_comesFrom_61 ?_
      refine sim_iadd dX12_comesFrom_62 ?_
      refine sim_nmI (fun v10 => ?_)
      refine sim_istore_n (L' := [(2, .int v10), (0, .ref 75)]) rfl (by decide) dX12_comesFrom_63 ?_
      refine sim_goto (tgt := 37) dX12_comesFrom_64 (by decide) ?_
      refine sim_sub [1, 0] rfl ?_
      exact hR v10
theorem sX12_comesFrom_l37 {K67 : Int32 → Option (Int32 × AH)} {h : AH} (hK67 : ∀ (y2 : Int32), Sim RX12 cX12_comesFrom 4 (some .boolean) 2 (Option.map oI) (K67 y2) 67 [(0, .ref 75), (2, .int y2)] [] h) : ∀ (n : Nat) (x2 : Int32), Sim RX12 cX12_comesFrom 4 (some .boolean) 2 (Option.map oI) (fX12_comesFrom_l37 K67 h n x2) 37 [(0, .ref 75), (2, .int x2)] [] h := by
  intro n
  induction n with
  | zero => intro x2; exact sim_none
  | succ n ih => intro x2; exact sX12_comesFrom_l37b ih hK67 x2
def fX12_comesFrom_l96b (rec : Int32 → Option (Int32 × AH)) (h : AH) (x3 : Int32) : Option (Int32 × AH) :=
  if x3 < (h.1 75 2) then
    if x3 < 0 ∨ 20 ≤ x3.toNatClampNeg then none else
    (fX12_makes x3 110 h).bind (fun b18 =>
    if (h.1 110 x3.toNatClampNeg) = b18 then
      rec (x3 + 1)
    else
      some ((0 : Int32), h))
  else
    some ((1 : Int32), h)
def fX12_comesFrom_l96 (h : AH) : Nat → Int32 → Option (Int32 × AH)
  | 0, _ => none
  | n + 1, x3 => fX12_comesFrom_l96b (fX12_comesFrom_l96 h n) h x3
theorem sX12_comesFrom_l96b {rec : Int32 → Option (Int32 × AH)} {h : AH} (hR : ∀ (x3 : Int32), Sim RX12 cX12_comesFrom 4 (some .boolean) 2 (Option.map oI) (rec x3) 96 [(0, .ref 75), (3, .int x3)] [] h) : ∀ (x3 : Int32), Sim RX12 cX12_comesFrom 4 (some .boolean) 2 (Option.map oI) (fX12_comesFrom_l96b rec h x3) 96 [(0, .ref 75), (3, .int x3)] [] h := by
  intro x3
  unfold fX12_comesFrom_l96b
  refine sim_iload_n 1 rfl dX12_comesFrom_96 ?_
  refine sim_aload_n 0 rfl dX12_comesFrom_97 ?_
  refine sim_getI flX12_145 rfl rfl dX12_comesFrom_98 ?_
  refine sim_icmp_ge (tgt := 130) dX12_comesFrom_101 (by decide) (fun c16 => ?_) (fun c16 => ?_)
  · refine sim_iconst (v := 1) (by decide) dX12_comesFrom_130 ?_
    exact sim_zret rfl rfl rfl dX12_comesFrom_131
  · refine sim_aload_n 0 rfl dX12_comesFrom_104 ?_
    refine sim_getR flX12_113 rfl rfl dX12_comesFrom_105 ?_
    refine sim_iload_n 1 rfl dX12_comesFrom_108 ?_
    refine sim_nguard (fun c17 => ?_)
    refine sim_iald rfl c17 dX12_comesFrom_109 ?_
    refine sim_aload_n 0 rfl dX12_comesFrom_110 ?_
    refine sim_iload_n 1 rfl dX12_comesFrom_111 ?_
    refine sim_aload_n 0 rfl dX12_comesFrom_112 ?_
    refine sim_getR flX12_113 rfl rfl dX12_comesFrom_113 ?_
    refine sim_bind (fun b18 e19 => ?_)
    refine sim_cV (As := [.int x3, .ref 110]) (st := [.int (h.1 110 x3.toNatClampNeg)]) (r := (some (.int b18))) (h1 := h) (okX12_makes x3 110 rfl h b18 e19) (fun _ => rfl) mlX12_198 mtX12_makes rfl rfl rfl rfl (Nat.le_of_ble_eq_true rfl) rfl (Nat.le_of_ble_eq_true rfl) dX12_comesFrom_116 ?_
    refine sim_icmp_eq (tgt := 124) dX12_comesFrom_119 (by decide) (fun c20 => ?_) (fun c20 => ?_)
    · refine sim_iinc (v := x3 + 1) (L' := [(3, .int (x3 + 1)), (0, .ref 75)]) 1 rfl rfl rfl (by decide) dX12_comesFrom_124 ?_
      refine sim_goto (tgt := 96) dX12_comesFrom_127 (by decide) ?_
      refine sim_sub [1, 0] rfl ?_
      exact hR (x3 + 1)
    · refine sim_iconst (v := 0) (by decide) dX12_comesFrom_122 ?_
      exact sim_zret rfl rfl rfl dX12_comesFrom_123
theorem sX12_comesFrom_l96 {h : AH} : ∀ (n : Nat) (x3 : Int32), Sim RX12 cX12_comesFrom 4 (some .boolean) 2 (Option.map oI) (fX12_comesFrom_l96 h n x3) 96 [(0, .ref 75), (3, .int x3)] [] h := by
  intro n
  induction n with
  | zero => intro x3; exact sim_none
  | succ n ih => intro x3; exact sX12_comesFrom_l96b ih x3
def fX12_comesFrom (p1 : Int32) (h : AH) : Option (Int32 × AH) :=
  fX12_comesFrom_l2 (fun (g5 : AH) =>
    fX12_comesFrom_l37 (fun (y11 : Int32) =>
      if y11 = (g5.1 75 2) then
        some ((1 : Int32), g5)
      else
        if y11 < 0 ∨ 20 ≤ y11.toNatClampNeg then none else
        if (fX12_isClaim (g5.1 110 y11.toNatClampNeg) g5) = 0 then
          some ((0 : Int32), g5)
        else
          letT (y11 + (1 : Int32)) (fun v15 =>
          fX12_comesFrom_l96 g5 fuel0 v15)) g5 fuel0 (0 : Int32)) p1 fuel0 (0 : Int32) h
theorem sX12_comesFrom (p1 : Int32) (h : AH) : Sim RX12 cX12_comesFrom 4 (some .boolean) 2 (Option.map oI) (fX12_comesFrom p1 h) 0 [(0, .ref 75), (1, .int p1)] [] h := by
  unfold fX12_comesFrom
  refine sim_iconst (v := 0) (by decide) dX12_comesFrom_0 ?_
  refine sim_istore_n (L' := [(2, .int (0 : Int32)), (0, .ref 75), (1, .int p1)]) rfl (by decide) dX12_comesFrom_1 ?_
  refine sim_sub [1, 2, 0] rfl ?_
  refine sX12_comesFrom_l2 (fun g5 => ?_) _ (0 : Int32) h
  · refine sim_iconst (v := 0) (by decide) dX12_comesFrom_35 ?_
    refine sim_istore_n (L' := [(2, .int (0 : Int32)), (0, .ref 75)]) rfl (by decide) dX12_comesFrom_36 ?_
    refine sim_sub [1, 0] rfl ?_
    refine sX12_comesFrom_l37 (fun y11 => ?_) _ (0 : Int32)
    · refine sim_iload_n 1 rfl dX12_comesFrom_67 ?_
      refine sim_aload_n 0 rfl dX12_comesFrom_68 ?_
      refine sim_getI flX12_145 rfl rfl dX12_comesFrom_69 ?_
      refine sim_icmp_ne (tgt := 77) dX12_comesFrom_72 (by decide) (fun c12 => ?_) (fun c12 => ?_)
      · refine sim_aload_n 0 rfl dX12_comesFrom_77 ?_
        refine sim_aload_n 0 rfl dX12_comesFrom_78 ?_
        refine sim_getR flX12_113 rfl rfl dX12_comesFrom_79 ?_
        refine sim_iload_n 1 rfl dX12_comesFrom_82 ?_
        refine sim_nguard (fun c13 => ?_)
        refine sim_iald rfl c13 dX12_comesFrom_83 ?_
        refine sim_cV (As := [.int (g5.1 110 y11.toNatClampNeg)]) (st := []) (r := (some (.int (fX12_isClaim (g5.1 110 y11.toNatClampNeg) g5)))) (h1 := g5) (okX12_isClaim (g5.1 110 y11.toNatClampNeg) g5) (fun _ => rfl) mlX12_225 mtX12_isClaim rfl rfl rfl rfl (Nat.le_of_ble_eq_true rfl) rfl (Nat.le_of_ble_eq_true rfl) dX12_comesFrom_84 ?_
        refine sim_if_ne (tgt := 92) dX12_comesFrom_87 (by decide) (fun c14 => ?_) (fun c14 => ?_)
        · refine sim_iload_n 1 rfl dX12_comesFrom_92 ?_
          refine sim_iconst (v := 1) (by decide) dX12_comesFrom_93 ?_
          refine sim_iadd dX12_comesFrom_94 ?_
          refine sim_nmI (fun v15 => ?_)
          refine sim_istore_n (L' := [(3, .int v15), (0, .ref 75), (2, .int y11)]) rfl (by decide) dX12_comesFrom_95 ?_
          refine sim_sub [1, 0] rfl ?_
          refine sX12_comesFrom_l96 _ v15
        · refine sim_iconst (v := 0) (by decide) dX12_comesFrom_90 ?_
          exact sim_zret rfl rfl rfl dX12_comesFrom_91
      · refine sim_iconst (v := 1) (by decide) dX12_comesFrom_75 ?_
        exact sim_zret rfl rfl rfl dX12_comesFrom_76
theorem okX12_comesFrom (p1 : Int32) (h : AH) (b : Int32 × AH) (e : fX12_comesFrom p1 h = some b) : Ok yX12_comesFrom cX12_comesFrom 4 (some .boolean) 2 [.ref 75, .int p1] h (some (.int b.1), b.2) := ok_of (sX12_comesFrom p1 h) (by rw [e]; rfl) (by decide +kernel) (Nat.le_of_ble_eq_true rfl)
def fX12_author_l47b (rec : Int32 → AH → Option (Int32 × AH)) (K79 : AH → Option (Int32 × AH)) (x1 : Int32) (x2 : Int32) (x3 : Int32) (h : AH) : Option (Int32 × AH) :=
  if x3 < (x1 * (h.1 75 2)) then
    if x3 < 0 ∨ 220 ≤ x3.toNatClampNeg then none else
    if x3 < 0 ∨ 100 ≤ x3.toNatClampNeg then none else
    letT (sI h 109 x3.toNatClampNeg ((h.1 82 x3.toNatClampNeg) &&& (255 : Int32))) (fun g9 =>
    rec (x3 + 1) g9)
  else
    K79 h
def fX12_author_l47 (K79 : AH → Option (Int32 × AH)) (x1 : Int32) (x2 : Int32) : Nat → Int32 → AH → Option (Int32 × AH)
  | 0, _, _ => none
  | n + 1, x3, h => fX12_author_l47b (fX12_author_l47 K79 x1 x2 n) K79 x1 x2 x3 h
theorem sX12_author_l47b {rec : Int32 → AH → Option (Int32 × AH)} {K79 : AH → Option (Int32 × AH)} {x1 : Int32} {x2 : Int32} (hR : ∀ (x3 : Int32) (h : AH), Sim RX12 cX12_author 9 (some .int) 3 (Option.map oI) (rec x3 h) 47 [(0, .ref 75), (1, .int x1), (2, .int x2), (3, .int x3)] [] h) (hK79 : ∀ (g : AH), Sim RX12 cX12_author 9 (some .int) 3 (Option.map oI) (K79 g) 79 [(0, .ref 75), (1, .int x1), (2, .int x2)] [] g) : ∀ (x3 : Int32) (h : AH), Sim RX12 cX12_author 9 (some .int) 3 (Option.map oI) (fX12_author_l47b rec K79 x1 x2 x3 h) 47 [(0, .ref 75), (1, .int x1), (2, .int x2), (3, .int x3)] [] h := by
  intro x3 h
  unfold fX12_author_l47b
  refine sim_iload_n 3 rfl dX12_author_47 ?_
  refine sim_iload_n 1 rfl dX12_author_48 ?_
  refine sim_aload_n 0 rfl dX12_author_49 ?_
  refine sim_getI flX12_145 rfl rfl dX12_author_50 ?_
  refine sim_imul dX12_author_53 ?_
  refine sim_icmp_ge (tgt := 79) dX12_author_54 (by decide) (fun c6 => ?_) (fun c6 => ?_)
  · refine sim_sub [0, 1, 2] rfl ?_
    exact hK79 h
  · refine sim_aload_n 0 rfl dX12_author_57 ?_
    refine sim_getR flX12_110 rfl rfl dX12_author_58 ?_
    refine sim_iload_n 3 rfl dX12_author_61 ?_
    refine sim_aload_n 0 rfl dX12_author_62 ?_
    refine sim_getR flX12_28 rfl rfl dX12_author_63 ?_
    refine sim_iload_n 3 rfl dX12_author_66 ?_
    refine sim_nguard (fun c7 => ?_)
    refine sim_bald rfl c7 dX12_author_67 ?_
    refine sim_sipush (v := 255) (by decide) dX12_author_68 ?_
    refine sim_iand dX12_author_71 ?_
    refine sim_nguard (fun c8 => ?_)
    refine sim_iast rfl c8 dX12_author_72 ?_
    refine sim_nmH (fun g9 => ?_)
    refine sim_iinc (v := x3 + 1) (L' := [(3, .int (x3 + 1)), (0, .ref 75), (1, .int x1), (2, .int x2)]) 3 rfl rfl rfl (by decide) dX12_author_73 ?_
    refine sim_goto (tgt := 47) dX12_author_76 (by decide) ?_
    refine sim_sub [1, 2, 3, 0] rfl ?_
    exact hR (x3 + 1) g9
theorem sX12_author_l47 {K79 : AH → Option (Int32 × AH)} {x1 : Int32} {x2 : Int32} (hK79 : ∀ (g : AH), Sim RX12 cX12_author 9 (some .int) 3 (Option.map oI) (K79 g) 79 [(0, .ref 75), (1, .int x1), (2, .int x2)] [] g) : ∀ (n : Nat) (x3 : Int32) (h : AH), Sim RX12 cX12_author 9 (some .int) 3 (Option.map oI) (fX12_author_l47 K79 x1 x2 n x3 h) 47 [(0, .ref 75), (1, .int x1), (2, .int x2), (3, .int x3)] [] h := by
  intro n
  induction n with
  | zero => intro x3 h; exact sim_none
  | succ n ih => intro x3 h; exact sX12_author_l47b ih hK79 x3 h
def fX12_author_l161b (rec : Int32 → Int32 → AH → Option (Int32 × AH)) (K194 : Int32 → AH → Option (Int32 × AH)) (x1 : Int32) (x2 : Int32) (x3 : Int32) (x4 : Int32) (x5 : Int32) (x7 : Int32) (x8 : Int32) (h : AH) : Option (Int32 × AH) :=
  if x8 < x1 then
    if x7 = 0 then
      rec (0 : Int32) (x8 + 1) h
    else
      (fX12_comesFrom x8 h).bind (fun b24 =>
      if b24.1 = 0 then
        rec (0 : Int32) (x8 + 1) b24.2
      else
        rec (1 : Int32) (x8 + 1) b24.2)
  else
    K194 x7 h
def fX12_author_l161 (K194 : Int32 → AH → Option (Int32 × AH)) (x1 : Int32) (x2 : Int32) (x3 : Int32) (x4 : Int32) (x5 : Int32) : Nat → Int32 → Int32 → AH → Option (Int32 × AH)
  | 0, _, _, _ => none
  | n + 1, x7, x8, h => fX12_author_l161b (fX12_author_l161 K194 x1 x2 x3 x4 x5 n) K194 x1 x2 x3 x4 x5 x7 x8 h
theorem sX12_author_l161b {rec : Int32 → Int32 → AH → Option (Int32 × AH)} {K194 : Int32 → AH → Option (Int32 × AH)} {x1 : Int32} {x2 : Int32} {x3 : Int32} {x4 : Int32} {x5 : Int32} (hR : ∀ (x7 : Int32) (x8 : Int32) (h : AH), Sim RX12 cX12_author 9 (some .int) 3 (Option.map oI) (rec x7 x8 h) 161 [(0, .ref 75), (1, .int x1), (2, .int x2), (3, .int x3), (4, .int x4), (5, .int x5), (7, .int x7), (8, .int x8)] [] h) (hK194 : ∀ (y7 : Int32) (g : AH), Sim RX12 cX12_author 9 (some .int) 3 (Option.map oI) (K194 y7 g) 194 [(0, .ref 75), (1, .int x1), (2, .int x2), (3, .int x3), (4, .int x4), (5, .int x5), (7, .int y7)] [] g) : ∀ (x7 : Int32) (x8 : Int32) (h : AH), Sim RX12 cX12_author 9 (some .int) 3 (Option.map oI) (fX12_author_l161b rec K194 x1 x2 x3 x4 x5 x7 x8 h) 161 [(0, .ref 75), (1, .int x1), (2, .int x2), (3, .int x3), (4, .int x4), (5, .int x5), (7, .int x7), (8, .int x8)] [] h := by
  intro x7 x8 h
  unfold fX12_author_l161b
  refine sim_iload 7 rfl dX12_author_161 ?_
  refine sim_iload_n 1 rfl dX12_author_163 ?_
  refine sim_icmp_ge (tgt := 194) dX12_author_164 (by decide) (fun c22 => ?_) (fun c22 => ?_)
  · refine sim_sub [0, 1, 2, 3, 4, 5, 6] rfl ?_
    exact hK194 x7 h
  · refine sim_iload 6 rfl dX12_author_167 ?_
    refine sim_if_eq (tgt := 185) dX12_author_169 (by decide) (fun c23 => ?_) (fun c23 => ?_)
    · refine sim_iconst (v := 0) (by decide) dX12_author_185 ?_
      refine sim_istore (L' := [(7, .int (0 : Int32)), (0, .ref 75), (1, .int x1), (2, .int x2), (3, .int x3), (4, .int x4), (5, .int x5), (8, .int x8)]) rfl (by decide) dX12_author_186 ?_
      refine sim_iinc (v := x8 + 1) (L' := [(8, .int (x8 + 1)), (7, .int (0 : Int32)), (0, .ref 75), (1, .int x1), (2, .int x2), (3, .int x3), (4, .int x4), (5, .int x5)]) 7 rfl rfl rfl (by decide) dX12_author_188 ?_
      refine sim_goto (tgt := 161) dX12_author_191 (by decide) ?_
      refine sim_sub [2, 3, 4, 5, 6, 7, 1, 0] rfl ?_
      exact hR (0 : Int32) (x8 + 1) h
    · refine sim_aload_n 0 rfl dX12_author_172 ?_
      refine sim_iload 7 rfl dX12_author_173 ?_
      refine sim_bind (fun b24 e25 => ?_)
      refine sim_cV (As := [.int x8]) (st := []) (r := (some (.int b24.1))) (h1 := b24.2) (okX12_comesFrom x8 h b24 e25) (fun _ => rfl) mlX12_396 mtX12_comesFrom rfl rfl rfl rfl (Nat.le_of_ble_eq_true rfl) rfl (Nat.le_of_ble_eq_true rfl) dX12_author_175 ?_
      refine sim_if_eq (tgt := 185) dX12_author_178 (by decide) (fun c26 => ?_) (fun c26 => ?_)
      · refine sim_iconst (v := 0) (by decide) dX12_author_185 ?_
        refine sim_istore (L' := [(7, .int (0 : Int32)), (0, .ref 75), (1, .int x1), (2, .int x2), (3, .int x3), (4, .int x4), (5, .int x5), (8, .int x8)]) rfl (by decide) dX12_author_186 ?_
        refine sim_iinc (v := x8 + 1) (L' := [(8, .int (x8 + 1)), (7, .int (0 : Int32)), (0, .ref 75), (1, .int x1), (2, .int x2), (3, .int x3), (4, .int x4), (5, .int x5)]) 7 rfl rfl rfl (by decide) dX12_author_188 ?_
        refine sim_goto (tgt := 161) dX12_author_191 (by decide) ?_
        refine sim_sub [2, 3, 4, 5, 6, 7, 1, 0] rfl ?_
        exact hR (0 : Int32) (x8 + 1) b24.2
      · refine sim_iconst (v := 1) (by decide) dX12_author_181 ?_
        refine sim_goto (tgt := 186) dX12_author_182 (by decide) ?_
        refine sim_istore (L' := [(7, .int (1 : Int32)), (0, .ref 75), (1, .int x1), (2, .int x2), (3, .int x3), (4, .int x4), (5, .int x5), (8, .int x8)]) rfl (by decide) dX12_author_186 ?_
        refine sim_iinc (v := x8 + 1) (L' := [(8, .int (x8 + 1)), (7, .int (1 : Int32)), (0, .ref 75), (1, .int x1), (2, .int x2), (3, .int x3), (4, .int x4), (5, .int x5)]) 7 rfl rfl rfl (by decide) dX12_author_188 ?_
        refine sim_goto (tgt := 161) dX12_author_191 (by decide) ?_
        refine sim_sub [2, 3, 4, 5, 6, 7, 1, 0] rfl ?_
        exact hR (1 : Int32) (x8 + 1) b24.2
theorem sX12_author_l161 {K194 : Int32 → AH → Option (Int32 × AH)} {x1 : Int32} {x2 : Int32} {x3 : Int32} {x4 : Int32} {x5 : Int32} (hK194 : ∀ (y7 : Int32) (g : AH), Sim RX12 cX12_author 9 (some .int) 3 (Option.map oI) (K194 y7 g) 194 [(0, .ref 75), (1, .int x1), (2, .int x2), (3, .int x3), (4, .int x4), (5, .int x5), (7, .int y7)] [] g) : ∀ (n : Nat) (x7 : Int32) (x8 : Int32) (h : AH), Sim RX12 cX12_author 9 (some .int) 3 (Option.map oI) (fX12_author_l161 K194 x1 x2 x3 x4 x5 n x7 x8 h) 161 [(0, .ref 75), (1, .int x1), (2, .int x2), (3, .int x3), (4, .int x4), (5, .int x5), (7, .int x7), (8, .int x8)] [] h := by
  intro n
  induction n with
  | zero => intro x7 x8 h; exact sim_none
  | succ n ih => intro x7 x8 h; exact sX12_author_l161b ih hK194 x7 x8 h
def fX12_author_l91b (rec : Int32 → Int32 → Int32 → AH → Option (Int32 × AH)) (K227 : Int32 → Int32 → AH → Option (Int32 × AH)) (x1 : Int32) (x2 : Int32) (x3 : Int32) (x4 : Int32) (x5 : Int32) (h : AH) : Option (Int32 × AH) :=
  if x5 < ((h.1 75 2) * (h.1 75 0)) then
    if (h.1 75 0) = 0 then none else
    letT (x5 / (h.1 75 0)) (fun v15 =>
    if (h.1 75 0) = 0 then none else
    if v15 < 0 ∨ 20 ≤ v15.toNatClampNeg then none else
    if (jrem x5 (h.1 75 0)) = (h.1 87 v15.toNatClampNeg) then
      rec x3 x4 (x5 + 1) h
    else
      if (h.1 75 0) = 0 then none else
      (fX12_slips 87 88 v15 (jrem x5 (h.1 75 0)) h).bind (fun b20 =>
      fX12_author_l161 (fun (y27 : Int32) (g28 : AH) =>
        if y27 = 0 then
          rec x3 x4 (x5 + 1) g28
        else
          if x4 = (-1 : Int32) then
            letT (x3 + (1 : Int32)) (fun v32 =>
            rec v32 x5 (x5 + 1) g28)
          else
            letT (x3 + (1 : Int32)) (fun v31 =>
            rec v31 x4 (x5 + 1) g28)) x1 x2 x3 x4 x5 fuel0 (1 : Int32) (0 : Int32) b20))
  else
    K227 x3 x4 h
def fX12_author_l91 (K227 : Int32 → Int32 → AH → Option (Int32 × AH)) (x1 : Int32) (x2 : Int32) : Nat → Int32 → Int32 → Int32 → AH → Option (Int32 × AH)
  | 0, _, _, _, _ => none
  | n + 1, x3, x4, x5, h => fX12_author_l91b (fX12_author_l91 K227 x1 x2 n) K227 x1 x2 x3 x4 x5 h
theorem sX12_author_l91b {rec : Int32 → Int32 → Int32 → AH → Option (Int32 × AH)} {K227 : Int32 → Int32 → AH → Option (Int32 × AH)} {x1 : Int32} {x2 : Int32} (hR : ∀ (x3 : Int32) (x4 : Int32) (x5 : Int32) (h : AH), Sim RX12 cX12_author 9 (some .int) 3 (Option.map oI) (rec x3 x4 x5 h) 91 [(0, .ref 75), (1, .int x1), (2, .int x2), (3, .int x3), (4, .int x4), (5, .int x5)] [] h) (hK227 : ∀ (y3 : Int32) (y4 : Int32) (g : AH), Sim RX12 cX12_author 9 (some .int) 3 (Option.map oI) (K227 y3 y4 g) 227 [(0, .ref 75), (2, .int x2), (3, .int y3), (4, .int y4)] [] g) : ∀ (x3 : Int32) (x4 : Int32) (x5 : Int32) (h : AH), Sim RX12 cX12_author 9 (some .int) 3 (Option.map oI) (fX12_author_l91b rec K227 x1 x2 x3 x4 x5 h) 91 [(0, .ref 75), (1, .int x1), (2, .int x2), (3, .int x3), (4, .int x4), (5, .int x5)] [] h := by
  intro x3 x4 x5 h
  unfold fX12_author_l91b
  refine sim_iload 5 rfl dX12_author_91 ?_
  refine sim_aload_n 0 rfl dX12_author_93 ?_
  refine sim_getI flX12_145 rfl rfl dX12_author_94 ?_
  refine sim_aload_n 0 rfl dX12_author_97 ?_
  refine sim_getI flX12_134 rfl rfl dX12_author_98 ?_
  refine sim_imul dX12_author_101 ?_
  refine sim_icmp_ge (tgt := 227) dX12_author_102 (by decide) (fun c13 => ?_) (fun c13 => ?_)
  · refine sim_sub [0, 2, 3, 4] rfl ?_
    exact hK227 x3 x4 h
  · refine sim_iload 5 rfl dX12_author_105 ?_
    refine sim_aload_n 0 rfl dX12_author_107 ?_
    refine sim_getI flX12_134 rfl rfl dX12_author_108 ?_
    refine sim_nguard (fun c14 => ?_)
    refine sim_idiv c14 dX12_author_111 ?_
    refine sim_nmI (fun v15 => ?_)
    refine sim_istore (L' := [(6, .int v15), (0, .ref 75), (1, .int x1), (2, .int x2), (3, .int x3), (4, .int x4), (5, .int x5)]) rfl (by decide) dX12_author_112 ?_
    refine sim_iload 6 rfl dX12_author_114 ?_
    refine sim_aload_n 1 rfl dX12_author_116 ?_
    refine sim_getI flX12_134 rfl rfl dX12_author_117 ?_
    refine sim_nguard (fun c16 => ?_)
    refine sim_irem c16 dX12_author_120 ?_
    refine sim_aload_n 1 rfl dX12_author_121 ?_
    refine sim_getR flX12_44 rfl rfl dX12_author_122 ?_
    refine sim_iload 0 rfl dX12_author_125 ?_
    refine sim_nguard (fun c17 => ?_)
    refine sim_iald rfl c17 dX12_author_127 ?_
    refine sim_icmp_ne (tgt := 134) dX12_author_128 (by decide) (fun c18 => ?_) (fun c18 => ?_)
    · refine sim_aload_n 1 rfl dX12_author_134 ?_
      refine sim_aload_n 1 rfl dX12_author_135 ?_
      refine sim_getR flX12_44 rfl rfl dX12_author_136 ?_
      refine sim_aload_n 1 rfl dX12_author_139 ?_
      refine sim_getR flX12_47 rfl rfl dX12_author_140 ?_
      refine sim_iload 0 rfl dX12_author_143 ?_
      refine sim_iload 6 rfl dX12_author_145 ?_
      refine sim_aload_n 1 rfl dX12_author_147 ?_
      refine sim_getI flX12_134 rfl rfl dX12_author_148 ?_
      refine sim_nguard (fun c19 => ?_)
      refine sim_irem c19 dX12_author_151 ?_
      refine sim_bind (fun b20 e21 => ?_)
      refine sim_cV (As := [.ref 87, .ref 88, .int v15, .int (jrem x5 (h.1 75 0))]) (st := []) (r := none) (h1 := b20) (okX12_slips 87 rfl 88 rfl v15 (jrem x5 (h.1 75 0)) h b20 e21) (fun _ => rfl) mlX12_228 mtX12_slips rfl rfl rfl rfl (Nat.le_of_ble_eq_true rfl) rfl (Nat.le_of_ble_eq_true rfl) dX12_author_152 ?_
      refine sim_iconst (v := 1) (by decide) dX12_author_155 ?_
      refine sim_istore (L' := [(7, .int (1 : Int32)), (6, .int v15), (0, .ref 75), (1, .int x1), (2, .int x2), (3, .int x3), (4, .int x4), (5, .int x5)]) rfl (by decide) dX12_author_156 ?_
      refine sim_iconst (v := 0) (by decide) dX12_author_158 ?_
      refine sim_istore (L' := [(8, .int (0 : Int32)), (7, .int (1 : Int32)), (6, .int v15), (0, .ref 75), (1, .int x1), (2, .int x2), (3, .int x3), (4, .int x4), (5, .int x5)]) rfl (by decide) dX12_author_159 ?_
      refine sim_sub [3, 4, 5, 6, 7, 8, 1, 0] rfl ?_
      refine sX12_author_l161 (fun y27 g28 => ?_) _ (1 : Int32) (0 : Int32) b20
      · refine sim_iload 6 rfl dX12_author_194 ?_
        refine sim_if_ne (tgt := 202) dX12_author_196 (by decide) (fun c29 => ?_) (fun c29 => ?_)
        · refine sim_iload 4 rfl dX12_author_202 ?_
          refine sim_iconst (v := -1) (by decide) dX12_author_204 ?_
          refine sim_icmp_ne (tgt := 213) dX12_author_205 (by decide) (fun c30 => ?_) (fun c30 => ?_)
          · refine sim_iload 4 rfl dX12_author_213 ?_
            refine sim_istore (L' := [(4, .int x4), (0, .ref 75), (1, .int x1), (2, .int x2), (3, .int x3), (5, .int x5), (7, .int y27)]) rfl (by decide) dX12_author_215 ?_
            refine sim_iload_n 4 rfl dX12_author_217 ?_
            refine sim_iconst (v := 1) (by decide) dX12_author_218 ?_
            refine sim_iadd dX12_author_219 ?_
            refine sim_nmI (fun v31 => ?_)
            refine sim_istore_n (L' := [(3, .int v31), (4, .int x4), (0, .ref 75), (1, .int x1), (2, .int x2), (5, .int x5), (7, .int y27)]) rfl (by decide) dX12_author_220 ?_
            refine sim_iinc (v := x5 + 1) (L' := [(5, .int (x5 + 1)), (3, .int v31), (4, .int x4), (0, .ref 75), (1, .int x1), (2, .int x2), (7, .int y27)]) 5 rfl rfl rfl (by decide) dX12_author_221 ?_
            refine sim_goto (tgt := 91) dX12_author_224 (by decide) ?_
            refine sim_sub [3, 4, 5, 1, 2, 0] rfl ?_
            exact hR v31 x4 (x5 + 1) g28
          · refine sim_iload 5 rfl dX12_author_208 ?_
            refine sim_goto (tgt := 215) dX12_author_210 (by decide) ?_
            refine sim_istore (L' := [(4, .int x5), (0, .ref 75), (1, .int x1), (2, .int x2), (3, .int x3), (5, .int x5), (7, .int y27)]) rfl (by decide) dX12_author_215 ?_
            refine sim_iload_n 4 rfl dX12_author_217 ?_
            refine sim_iconst (v := 1) (by decide) dX12_author_218 ?_
            refine sim_iadd dX12_author_219 ?_
            refine sim_nmI (fun v32 => ?_)
            refine sim_istore_n (L' := [(3, .int v32), (4, .int x5), (0, .ref 75), (1, .int x1), (2, .int x2), (5, .int x5), (7, .int y27)]) rfl (by decide) dX12_author_220 ?_
            refine sim_iinc (v := x5 + 1) (L' := [(5, .int (x5 + 1)), (3, .int v32), (4, .int x5), (0, .ref 75), (1, .int x1), (2, .int x2), (7, .int y27)]) 5 rfl rfl rfl (by decide) dX12_author_221 ?_
            refine sim_goto (tgt := 91) dX12_author_224 (by decide) ?_
            refine sim_sub [3, 4, 5, 1, 2, 0] rfl ?_
            exact hR v32 x5 (x5 + 1) g28
        · refine sim_goto (tgt := 221) dX12_author_199 (by decide) ?_
          refine sim_iinc (v := x5 + 1) (L' := [(5, .int (x5 + 1)), (0, .ref 75), (1, .int x1), (2, .int x2), (3, .int x3), (4, .int x4), (7, .int y27)]) 5 rfl rfl rfl (by decide) dX12_author_221 ?_
          refine sim_goto (tgt := 91) dX12_author_224 (by decide) ?_
          refine sim_sub [1, 2, 3, 4, 5, 0] rfl ?_
          exact hR x3 x4 (x5 + 1) g28
    · refine sim_goto (tgt := 221) dX12_author_131 (by decide) ?_
      refine sim_iinc (v := x5 + 1) (L' := [(5, .int (x5 + 1)), (6, .int v15), (0, .ref 75), (1, .int x1), (2, .int x2), (3, .int x3), (4, .int x4)]) 6 rfl rfl rfl (by decide) dX12_author_221 ?_
      refine sim_goto (tgt := 91) dX12_author_224 (by decide) ?_
      refine sim_sub [2, 3, 4, 5, 6, 0] rfl ?_
      exact hR x3 x4 (x5 + 1) h
theorem sX12_author_l91 {K227 : Int32 → Int32 → AH → Option (Int32 × AH)} {x1 : Int32} {x2 : Int32} (hK227 : ∀ (y3 : Int32) (y4 : Int32) (g : AH), Sim RX12 cX12_author 9 (some .int) 3 (Option.map oI) (K227 y3 y4 g) 227 [(0, .ref 75), (2, .int x2), (3, .int y3), (4, .int y4)] [] g) : ∀ (n : Nat) (x3 : Int32) (x4 : Int32) (x5 : Int32) (h : AH), Sim RX12 cX12_author 9 (some .int) 3 (Option.map oI) (fX12_author_l91 K227 x1 x2 n x3 x4 x5 h) 91 [(0, .ref 75), (1, .int x1), (2, .int x2), (3, .int x3), (4, .int x4), (5, .int x5)] [] h := by
  intro n
  induction n with
  | zero => intro x3 x4 x5 h; exact sim_none
  | succ n ih => intro x3 x4 x5 h; exact sX12_author_l91b ih hK227 x3 x4 x5 h
def fX12_author (p1 : Int32) (p2 : Int32) (h : AH) : Option (Int32 × AH) :=
  if (fX12_in p1 (1 : Int32) (5 : Int32) h) = 0 then
    some ((-1 : Int32), h)
  else
    if (fX12_in p2 (0 : Int32) (2 : Int32) h) = 0 then
      some ((-1 : Int32), h)
    else
      if (h.1 75 2) = 0 then
        some ((-1 : Int32), h)
      else
        if (h.1 75 10) < (p1 * (h.1 75 2)) then
          some ((-1 : Int32), h)
        else
          letT (sI h 75 10 (0 : Int32)) (fun g5 =>
          fX12_author_l47 (fun (g10 : AH) =>
            (fX12_laysTruth g10).bind (fun b11 =>
            fX12_author_l91 (fun (y33 : Int32) (y34 : Int32) (g35 : AH) =>
              if p2 = 0 then
                some (y33, g35)
              else
                if y34 = (-1 : Int32) then
                  some ((-2 : Int32), g35)
                else
                  if p2 = (1 : Int32) then
                    if (g35.1 75 0) = 0 then none else
                    some (y34 / (g35.1 75 0), g35)
                  else
                    if (g35.1 75 0) = 0 then none else
                    some (jrem y34 (g35.1 75 0), g35)) p1 p2 fuel0 (0 : Int32) (-1 : Int32) (0 : Int32) b11)) p1 p2 fuel0 (0 : Int32) g5)
theorem sX12_author (p1 : Int32) (p2 : Int32) (h : AH) : Sim RX12 cX12_author 9 (some .int) 3 (Option.map oI) (fX12_author p1 p2 h) 0 [(0, .ref 75), (1, .int p1), (2, .int p2)] [] h := by
  unfold fX12_author
  refine sim_iload_n 1 rfl dX12_author_0 ?_
  refine sim_iconst (v := 1) (by decide) dX12_author_1 ?_
  refine sim_iconst (v := 5) (by decide) dX12_author_2 ?_
  refine sim_cS (As := [.int p1, .int (1 : Int32), .int (5 : Int32)]) (st := []) (r := (some (.int (fX12_in p1 (1 : Int32) (5 : Int32) h)))) (h1 := h) (okX12_in p1 (1 : Int32) (5 : Int32) h) (fun _ => rfl) mlX12_141 mtX12_in rfl (Nat.le_of_ble_eq_true rfl) rfl (Nat.le_of_ble_eq_true rfl) dX12_author_3 ?_
  refine sim_if_eq (tgt := 38) dX12_author_6 (by decide) (fun c1 => ?_) (fun c1 => ?_)
  · refine sim_iconst (v := -1) (by decide) dX12_author_38 ?_
    exact sim_iret rfl rfl dX12_author_39
  · refine sim_iload_n 2 rfl dX12_author_9 ?_
    refine sim_iconst (v := 0) (by decide) dX12_author_10 ?_
    refine sim_iconst (v := 2) (by decide) dX12_author_11 ?_
    refine sim_cS (As := [.int p2, .int (0 : Int32), .int (2 : Int32)]) (st := []) (r := (some (.int (fX12_in p2 (0 : Int32) (2 : Int32) h)))) (h1 := h) (okX12_in p2 (0 : Int32) (2 : Int32) h) (fun _ => rfl) mlX12_141 mtX12_in rfl (Nat.le_of_ble_eq_true rfl) rfl (Nat.le_of_ble_eq_true rfl) dX12_author_12 ?_
    refine sim_if_eq (tgt := 38) dX12_author_15 (by decide) (fun c2 => ?_) (fun c2 => ?_)
    · refine sim_iconst (v := -1) (by decide) dX12_author_38 ?_
      exact sim_iret rfl rfl dX12_author_39
    · refine sim_aload_n 0 rfl dX12_author_18 ?_
      refine sim_getI flX12_145 rfl rfl dX12_author_19 ?_
      refine sim_if_eq (tgt := 38) dX12_author_22 (by decide) (fun c3 => ?_) (fun c3 => ?_)
      · refine sim_iconst (v := -1) (by decide) dX12_author_38 ?_
        exact sim_iret rfl rfl dX12_author_39
      · refine sim_iload_n 1 rfl dX12_author_25 ?_
        refine sim_aload_n 0 rfl dX12_author_26 ?_
        refine sim_getI flX12_145 rfl rfl dX12_author_27 ?_
        refine sim_imul dX12_author_30 ?_
        refine sim_aload_n 0 rfl dX12_author_31 ?_
        refine sim_getI flX12_148 rfl rfl dX12_author_32 ?_
        refine sim_icmp_le (tgt := 40) dX12_author_35 (by decide) (fun c4 => ?_) (fun c4 => ?_)
        · refine sim_aload_n 0 rfl dX12_author_40 ?_
          refine sim_iconst (v := 0) (by decide) dX12_author_41 ?_
          refine sim_putI fpX12_148 rfl rfl rfl rfl dX12_author_42 ?_
          refine sim_nmH (fun g5 => ?_)
          refine sim_iconst (v := 0) (by decide) dX12_author_45 ?_
          refine sim_istore_n (L' := [(3, .int (0 : Int32)), (0, .ref 75), (1, .int p1), (2, .int p2)]) rfl (by decide) dX12_author_46 ?_
          refine sim_sub [1, 2, 3, 0] rfl ?_
          refine sX12_author_l47 (fun g10 => ?_) _ (0 : Int32) g5
          · refine sim_aload_n 0 rfl dX12_author_79 ?_
            refine sim_bind (fun b11 e12 => ?_)
            refine sim_cV (As := []) (st := []) (r := none) (h1 := b11) (okX12_laysTruth g10 b11 e12) (fun _ => rfl) mlX12_212 mtX12_laysTruth rfl rfl rfl rfl (Nat.le_of_ble_eq_true rfl) rfl (Nat.le_of_ble_eq_true rfl) dX12_author_80 ?_
            refine sim_iconst (v := 0) (by decide) dX12_author_83 ?_
            refine sim_istore_n (L' := [(3, .int (0 : Int32)), (0, .ref 75), (1, .int p1), (2, .int p2)]) rfl (by decide) dX12_author_84 ?_
            refine sim_iconst (v := -1) (by decide) dX12_author_85 ?_
            refine sim_istore (L' := [(4, .int (-1 : Int32)), (3, .int (0 : Int32)), (0, .ref 75), (1, .int p1), (2, .int p2)]) rfl (by decide) dX12_author_86 ?_
            refine sim_iconst (v := 0) (by decide) dX12_author_88 ?_
            refine sim_istore (L' := [(5, .int (0 : Int32)), (4, .int (-1 : Int32)), (3, .int (0 : Int32)), (0, .ref 75), (1, .int p1), (2, .int p2)]) rfl (by decide) dX12_author_89 ?_
            refine sim_sub [3, 4, 5, 2, 1, 0] rfl ?_
            refine sX12_author_l91 (fun y33 y34 g35 => ?_) _ (0 : Int32) (-1 : Int32) (0 : Int32) b11
            · refine sim_iload_n 1 rfl dX12_author_227 ?_
              refine sim_if_ne (tgt := 235) dX12_author_228 (by decide) (fun c36 => ?_) (fun c36 => ?_)
              · refine sim_iload 3 rfl dX12_author_235 ?_
                refine sim_iconst (v := -1) (by decide) dX12_author_237 ?_
                refine sim_icmp_ne (tgt := 246) dX12_author_238 (by decide) (fun c37 => ?_) (fun c37 => ?_)
                · refine sim_iload_n 1 rfl dX12_author_246 ?_
                  refine sim_iconst (v := 1) (by decide) dX12_author_247 ?_
                  refine sim_icmp_ne (tgt := 261) dX12_author_248 (by decide) (fun c38 => ?_) (fun c38 => ?_)
                  · refine sim_iload 3 rfl dX12_author_261 ?_
                    refine sim_aload_n 0 rfl dX12_author_263 ?_
                    refine sim_getI flX12_134 rfl rfl dX12_author_264 ?_
                    refine sim_nguard (fun c39 => ?_)
                    refine sim_irem c39 dX12_author_267 ?_
                    exact sim_iret rfl rfl dX12_author_268
                  · refine sim_iload 3 rfl dX12_author_251 ?_
                    refine sim_aload_n 0 rfl dX12_author_253 ?_
                    refine sim_getI flX12_134 rfl rfl dX12_author_254 ?_
                    refine sim_nguard (fun c40 => ?_)
                    refine sim_idiv c40 dX12_author_257 ?_
                    refine sim_goto (tgt := 268) dX12_author_258 (by decide) ?_
                    exact sim_iret rfl rfl dX12_author_268
                · refine sim_bipush (v := -2) (by decide) dX12_author_241 ?_
                  refine sim_goto (tgt := 268) dX12_author_243 (by decide) ?_
                  exact sim_iret rfl rfl dX12_author_268
              · refine sim_iload_n 2 rfl dX12_author_231 ?_
                refine sim_goto (tgt := 268) dX12_author_232 (by decide) ?_
                exact sim_iret rfl rfl dX12_author_268
        · refine sim_iconst (v := -1) (by decide) dX12_author_38 ?_
          exact sim_iret rfl rfl dX12_author_39
theorem okX12_author (p1 : Int32) (p2 : Int32) (h : AH) (b : Int32 × AH) (e : fX12_author p1 p2 h = some b) : Ok yX12_author cX12_author 9 (some .int) 3 [.ref 75, .int p1, .int p2] h (some (.int b.1), b.2) := ok_of (sX12_author p1 p2 h) (by rw [e]; rfl) (by decide +kernel) (Nat.le_of_ble_eq_true rfl)
def fX12_isPupil (p0 : Int32) (h : AH) : Int32 :=
  if p0 < 0 then
    (0 : Int32)
  else
    if p0 < (8 : Int32) then
      (1 : Int32)
    else
      (0 : Int32)
theorem sX12_isPupil (p0 : Int32) (h : AH) : Sim RX12 cX12_isPupil 1 (some .boolean) 1 (tI h) (fX12_isPupil p0 h) 0 [(0, .int p0)] [] h := by
  unfold fX12_isPupil
  refine sim_iload_n 0 rfl dX12_isPupil_0 ?_
  refine sim_if_lt (tgt := 14) dX12_isPupil_1 (by decide) (fun c1 => ?_) (fun c1 => ?_)
  · refine sim_iconst (v := 0) (by decide) dX12_isPupil_14 ?_
    exact sim_zret rfl rfl rfl dX12_isPupil_15
  · refine sim_iload_n 0 rfl dX12_isPupil_4 ?_
    refine sim_bipush (v := 8) (by decide) dX12_isPupil_5 ?_
    refine sim_icmp_ge (tgt := 14) dX12_isPupil_7 (by decide) (fun c2 => ?_) (fun c2 => ?_)
    · refine sim_iconst (v := 0) (by decide) dX12_isPupil_14 ?_
      exact sim_zret rfl rfl rfl dX12_isPupil_15
    · refine sim_iconst (v := 1) (by decide) dX12_isPupil_10 ?_
      refine sim_goto (tgt := 15) dX12_isPupil_11 (by decide) ?_
      exact sim_zret rfl rfl rfl dX12_isPupil_15
theorem okX12_isPupil (p0 : Int32) (h : AH) : Ok yX12_isPupil cX12_isPupil 1 (some .boolean) 1 [.int p0] h (some (.int (fX12_isPupil p0 h)), h) := ok_of (sX12_isPupil p0 h) rfl (by decide +kernel) (Nat.le_of_ble_eq_true rfl)
def fX12_corrects (p1 : Int32) (p2 : Int32) (p3 : Int32) (h : AH) : Option (Int32 × AH) :=
  if (fX12_isPupil p1 h) = 0 then
    some ((-1000 : Int32), h)
  else
    if (fX12_isLine p2 h) = 0 then
      some ((-1000 : Int32), h)
    else
      if (fX12_isClaim p3 h) = 0 then
        some ((-1000 : Int32), h)
      else
        (fX12_isWrong p2 h).bind (fun b4 =>
        letT (fun (w6 : Int32) =>
          letT (fun (g8 : AH) =>
            if p1 < 0 ∨ 8 ≤ p1.toNatClampNeg then none else
            letT (fun (w11 : Int32) =>
              letT ((g8.1 81 p1.toNatClampNeg) + w11) (fun v13 =>
              if v13 < (-99 : Int32) then
                if p1 < 0 ∨ 8 ≤ p1.toNatClampNeg then none else
                letT (sI g8 81 p1.toNatClampNeg (-99 : Int32)) (fun g23 =>
                if p1 < 0 ∨ 8 ≤ p1.toNatClampNeg then none else
                some (g23.1 81 p1.toNatClampNeg, g23))
              else
                if (99 : Int32) < v13 then
                  if p1 < 0 ∨ 8 ≤ p1.toNatClampNeg then none else
                  letT (sI g8 81 p1.toNatClampNeg (99 : Int32)) (fun g20 =>
                  if p1 < 0 ∨ 8 ≤ p1.toNatClampNeg then none else
                  some (g20.1 81 p1.toNatClampNeg, g20))
                else
                  if p1 < 0 ∨ 8 ≤ p1.toNatClampNeg then none else
                  letT (sI g8 81 p1.toNatClampNeg v13) (fun g17 =>
                  if p1 < 0 ∨ 8 ≤ p1.toNatClampNeg then none else
                  some (g17.1 81 p1.toNatClampNeg, g17)))) (fun J12 =>
            if w6 = 0 then
              J12 (-1 : Int32)
            else
              J12 (1 : Int32))) (fun J9 =>
          if w6 = 0 then
            J9 h
          else
            (fX12_works p2 p3 h).bind (fun b27 =>
            J9 b27))) (fun J7 =>
        letT (J7 (0 : Int32)) (fun J29 =>
        if b4 = 0 then
          J29
        else
          (fX12_makes p2 77 h).bind (fun b31 =>
          if p3 = b31 then
            J7 (1 : Int32)
          else
            J29))))
theorem sX12_corrects (p1 : Int32) (p2 : Int32) (p3 : Int32) (h : AH) : Sim RX12 cX12_corrects 6 (some .int) 4 (Option.map oI) (fX12_corrects p1 p2 p3 h) 0 [(0, .ref 75), (1, .int p1), (2, .int p2), (3, .int p3)] [] h := by
  unfold fX12_corrects
  refine sim_iload_n 1 rfl dX12_corrects_0 ?_
  refine sim_cS (As := [.int p1]) (st := []) (r := (some (.int (fX12_isPupil p1 h)))) (h1 := h) (okX12_isPupil p1 h) (fun _ => rfl) mlX12_399 mtX12_isPupil rfl (Nat.le_of_ble_eq_true rfl) rfl (Nat.le_of_ble_eq_true rfl) dX12_corrects_1 ?_
  refine sim_if_eq (tgt := 23) dX12_corrects_4 (by decide) (fun c1 => ?_) (fun c1 => ?_)
  · refine sim_sipush (v := -1000) (by decide) dX12_corrects_23 ?_
    exact sim_iret rfl rfl dX12_corrects_26
  · refine sim_aload_n 0 rfl dX12_corrects_7 ?_
    refine sim_iload_n 2 rfl dX12_corrects_8 ?_
    refine sim_cV (As := [.int p2]) (st := []) (r := (some (.int (fX12_isLine p2 h)))) (h1 := h) (okX12_isLine p2 h) (fun _ => rfl) mlX12_209 mtX12_isLine rfl rfl rfl rfl (Nat.le_of_ble_eq_true rfl) rfl (Nat.le_of_ble_eq_true rfl) dX12_corrects_9 ?_
    refine sim_if_eq (tgt := 23) dX12_corrects_12 (by decide) (fun c2 => ?_) (fun c2 => ?_)
    · refine sim_sipush (v := -1000) (by decide) dX12_corrects_23 ?_
      exact sim_iret rfl rfl dX12_corrects_26
    · refine sim_aload_n 0 rfl dX12_corrects_15 ?_
      refine sim_iload_n 3 rfl dX12_corrects_16 ?_
      refine sim_cV (As := [.int p3]) (st := []) (r := (some (.int (fX12_isClaim p3 h)))) (h1 := h) (okX12_isClaim p3 h) (fun _ => rfl) mlX12_225 mtX12_isClaim rfl rfl rfl rfl (Nat.le_of_ble_eq_true rfl) rfl (Nat.le_of_ble_eq_true rfl) dX12_corrects_17 ?_
      refine sim_if_ne (tgt := 27) dX12_corrects_20 (by decide) (fun c3 => ?_) (fun c3 => ?_)
      · refine sim_aload_n 0 rfl dX12_corrects_27 ?_
        refine sim_iload_n 2 rfl dX12_corrects_28 ?_
        refine sim_bind (fun b4 e5 => ?_)
        refine sim_cV (As := [.int p2]) (st := []) (r := (some (.int b4))) (h1 := h) (okX12_isWrong p2 h b4 e5) (fun _ => rfl) mlX12_222 mtX12_isWrong rfl rfl rfl rfl (Nat.le_of_ble_eq_true rfl) rfl (Nat.le_of_ble_eq_true rfl) dX12_corrects_29 ?_
        refine sim_letJ (fun J7 => ∀ (w6 : Int32), Sim RX12 cX12_corrects 6 (some .int) 4 (Option.map oI) (J7 w6) 53 [(0, .ref 75), (1, .int p1), (2, .int p2), (3, .int p3)] [.int w6] h) (fun w6 => ?_) (fun J7 hJ7 => ?_)
        · refine sim_istore (L' := [(4, .int w6), (0, .ref 75), (1, .int p1), (2, .int p2), (3, .int p3)]) rfl (by decide) dX12_corrects_53 ?_
          refine sim_iload 0 rfl dX12_corrects_55 ?_
          refine sim_letJ (fun J9 => ∀ (g8 : AH), Sim RX12 cX12_corrects 6 (some .int) 4 (Option.map oI) (J9 g8) 66 [(0, .ref 75), (1, .int p1), (4, .int w6)] [] g8) (fun g8 => ?_) (fun J9 hJ9 => ?_)
          · refine sim_aload_n 0 rfl dX12_corrects_66 ?_
            refine sim_getR flX12_25 rfl rfl dX12_corrects_67 ?_
            refine sim_iload_n 1 rfl dX12_corrects_70 ?_
            refine sim_nguard (fun c10 => ?_)
            refine sim_iald rfl c10 dX12_corrects_71 ?_
            refine sim_iload 2 rfl dX12_corrects_72 ?_
            refine sim_letJ (fun J12 => ∀ (w11 : Int32), Sim RX12 cX12_corrects 6 (some .int) 4 (Option.map oI) (J12 w11) 82 [(0, .ref 75), (1, .int p1)] [.int w11, .int (g8.1 81 p1.toNatClampNeg)] g8) (fun w11 => ?_) (fun J12 hJ12 => ?_)
            · refine sim_iadd dX12_corrects_82 ?_
              refine sim_nmI (fun v13 => ?_)
              refine sim_istore (L' := [(5, .int v13), (0, .ref 75), (1, .int p1)]) rfl (by decide) dX12_corrects_83 ?_
              refine sim_aload_n 1 rfl dX12_corrects_85 ?_
              refine sim_getR flX12_25 rfl rfl dX12_corrects_86 ?_
              refine sim_iload_n 2 rfl dX12_corrects_89 ?_
              refine sim_iload 0 rfl dX12_corrects_90 ?_
              refine sim_bipush (v := -99) (by decide) dX12_corrects_92 ?_
              refine sim_icmp_ge (tgt := 102) dX12_corrects_94 (by decide) (fun c14 => ?_) (fun c14 => ?_)
              · refine sim_iload 0 rfl dX12_corrects_102 ?_
                refine sim_bipush (v := 99) (by decide) dX12_corrects_104 ?_
                refine sim_icmp_le (tgt := 114) dX12_corrects_106 (by decide) (fun c15 => ?_) (fun c15 => ?_)
                · refine sim_iload 0 rfl dX12_corrects_114 ?_
                  refine sim_nguard (fun c16 => ?_)
                  refine sim_iast rfl c16 dX12_corrects_116 ?_
                  refine sim_nmH (fun g17 => ?_)
                  refine sim_aload_n 1 rfl dX12_corrects_117 ?_
                  refine sim_getR flX12_25 rfl rfl dX12_corrects_118 ?_
                  refine sim_iload_n 2 rfl dX12_corrects_121 ?_
                  refine sim_nguard (fun c18 => ?_)
                  refine sim_iald rfl c18 dX12_corrects_122 ?_
                  exact sim_iret rfl rfl dX12_corrects_123
                · refine sim_bipush (v := 99) (by decide) dX12_corrects_109 ?_
                  refine sim_goto (tgt := 116) dX12_corrects_111 (by decide) ?_
                  refine sim_nguard (fun c19 => ?_)
                  refine sim_iast rfl c19 dX12_corrects_116 ?_
                  refine sim_nmH (fun g20 => ?_)
                  refine sim_aload_n 1 rfl dX12_corrects_117 ?_
                  refine sim_getR flX12_25 rfl rfl dX12_corrects_118 ?_
                  refine sim_iload_n 2 rfl dX12_corrects_121 ?_
                  refine sim_nguard (fun c21 => ?_)
                  refine sim_iald rfl c21 dX12_corrects_122 ?_
                  exact sim_iret rfl rfl dX12_corrects_123
              · refine sim_bipush (v := -99) (by decide) dX12_corrects_97 ?_
                refine sim_goto (tgt := 116) dX12_corrects_99 (by decide) ?_
                refine sim_nguard (fun c22 => ?_)
                refine sim_iast rfl c22 dX12_corrects_116 ?_
                refine sim_nmH (fun g23 => ?_)
                refine sim_aload_n 1 rfl dX12_corrects_117 ?_
                refine sim_getR flX12_25 rfl rfl dX12_corrects_118 ?_
                refine sim_iload_n 2 rfl dX12_corrects_121 ?_
                refine sim_nguard (fun c24 => ?_)
                refine sim_iald rfl c24 dX12_corrects_122 ?_
                exact sim_iret rfl rfl dX12_corrects_123
            refine sim_if_eq (tgt := 81) dX12_corrects_74 (by decide) (fun c25 => ?_) (fun c25 => ?_)
            · refine sim_iconst (v := -1) (by decide) dX12_corrects_81 ?_
              refine sim_sub [0, 1] rfl ?_
              exact hJ12 (-1 : Int32)
            · refine sim_iconst (v := 1) (by decide) dX12_corrects_77 ?_
              refine sim_goto (tgt := 82) dX12_corrects_78 (by decide) ?_
              refine sim_sub [0, 1] rfl ?_
              exact hJ12 (1 : Int32)
          refine sim_if_eq (tgt := 66) dX12_corrects_57 (by decide) (fun c26 => ?_) (fun c26 => ?_)
          · refine sim_sub [1, 2, 0] rfl ?_
            exact hJ9 h
          · refine sim_aload_n 1 rfl dX12_corrects_60 ?_
            refine sim_iload_n 3 rfl dX12_corrects_61 ?_
            refine sim_iload_n 4 rfl dX12_corrects_62 ?_
            refine sim_bind (fun b27 e28 => ?_)
            refine sim_cV (As := [.int p2, .int p3]) (st := []) (r := none) (h1 := b27) (okX12_works p2 p3 h b27 e28) (fun _ => rfl) mlX12_393 mtX12_works rfl rfl rfl rfl (Nat.le_of_ble_eq_true rfl) rfl (Nat.le_of_ble_eq_true rfl) dX12_corrects_63 ?_
            refine sim_sub [1, 2, 0] rfl ?_
            exact hJ9 b27
        refine sim_letJ (fun J29 => Sim RX12 cX12_corrects 6 (some .int) 4 (Option.map oI) (J29) 52 [(0, .ref 75), (1, .int p1), (2, .int p2), (3, .int p3)] [] h) (?_) (fun J29 hJ29 => ?_)
        · refine sim_iconst (v := 0) (by decide) dX12_corrects_52 ?_
          exact hJ7 (0 : Int32)
        refine sim_if_eq (tgt := 52) dX12_corrects_32 (by decide) (fun c30 => ?_) (fun c30 => ?_)
        · exact hJ29
        · refine sim_iload_n 3 rfl dX12_corrects_35 ?_
          refine sim_aload_n 0 rfl dX12_corrects_36 ?_
          refine sim_iload_n 2 rfl dX12_corrects_37 ?_
          refine sim_aload_n 0 rfl dX12_corrects_38 ?_
          refine sim_getR flX12_13 rfl rfl dX12_corrects_39 ?_
          refine sim_bind (fun b31 e32 => ?_)
          refine sim_cV (As := [.int p2, .ref 77]) (st := [.int p3]) (r := (some (.int b31))) (h1 := h) (okX12_makes p2 77 rfl h b31 e32) (fun _ => rfl) mlX12_198 mtX12_makes rfl rfl rfl rfl (Nat.le_of_ble_eq_true rfl) rfl (Nat.le_of_ble_eq_true rfl) dX12_corrects_42 ?_
          refine sim_icmp_ne (tgt := 52) dX12_corrects_45 (by decide) (fun c33 => ?_) (fun c33 => ?_)
          · exact hJ29
          · refine sim_iconst (v := 1) (by decide) dX12_corrects_48 ?_
            refine sim_goto (tgt := 53) dX12_corrects_49 (by decide) ?_
            exact hJ7 (1 : Int32)
      · refine sim_sipush (v := -1000) (by decide) dX12_corrects_23 ?_
        exact sim_iret rfl rfl dX12_corrects_26
theorem okX12_corrects (p1 : Int32) (p2 : Int32) (p3 : Int32) (h : AH) (b : Int32 × AH) (e : fX12_corrects p1 p2 p3 h = some b) : Ok yX12_corrects cX12_corrects 6 (some .int) 4 [.ref 75, .int p1, .int p2, .int p3] h (some (.int b.1), b.2) := ok_of (sX12_corrects p1 p2 p3 h) (by rw [e]; rfl) (by decide +kernel) (Nat.le_of_ble_eq_true rfl)
def fX12_points (p1 : Int32) (h : AH) : Option Int32 :=
  if (fX12_isPupil p1 h) = 0 then
    some (-1000 : Int32)
  else
    if p1 < 0 ∨ 8 ≤ p1.toNatClampNeg then none else
    some (h.1 81 p1.toNatClampNeg)
theorem sX12_points (p1 : Int32) (h : AH) : Sim RX12 cX12_points 2 (some .int) 2 (Option.map (pI h)) (fX12_points p1 h) 0 [(0, .ref 75), (1, .int p1)] [] h := by
  unfold fX12_points
  refine sim_iload_n 1 rfl dX12_points_0 ?_
  refine sim_cS (As := [.int p1]) (st := []) (r := (some (.int (fX12_isPupil p1 h)))) (h1 := h) (okX12_isPupil p1 h) (fun _ => rfl) mlX12_399 mtX12_isPupil rfl (Nat.le_of_ble_eq_true rfl) rfl (Nat.le_of_ble_eq_true rfl) dX12_points_1 ?_
  refine sim_if_eq (tgt := 16) dX12_points_4 (by decide) (fun c1 => ?_) (fun c1 => ?_)
  · refine sim_sipush (v := -1000) (by decide) dX12_points_16 ?_
    exact sim_iret rfl rfl dX12_points_19
  · refine sim_aload_n 0 rfl dX12_points_7 ?_
    refine sim_getR flX12_25 rfl rfl dX12_points_8 ?_
    refine sim_iload_n 1 rfl dX12_points_11 ?_
    refine sim_nguard (fun c2 => ?_)
    refine sim_iald rfl c2 dX12_points_12 ?_
    refine sim_goto (tgt := 19) dX12_points_13 (by decide) ?_
    exact sim_iret rfl rfl dX12_points_19
theorem okX12_points (p1 : Int32) (h : AH) (b : Int32) (e : fX12_points p1 h = some b) : Ok yX12_points cX12_points 2 (some .int) 2 [.ref 75, .int p1] h (some (.int b), h) := ok_of (sX12_points p1 h) (by rw [e]; rfl) (by decide +kernel) (Nat.le_of_ble_eq_true rfl)
def fX12_copies_l2b (a0 : Nat) (a1 : Nat) (rec : Int32 → AH → Option AH) (x2 : Int32) (x3 : Int32) (h : AH) : Option AH :=
  if x3 < x2 then
    if x3 < 0 ∨ (aln a0) ≤ x3.toNatClampNeg then none else
    if x3 < 0 ∨ (aln a1) ≤ x3.toNatClampNeg then none else
    letT (sI h a1 x3.toNatClampNeg (h.1 a0 x3.toNatClampNeg)) (fun g4 =>
    rec (x3 + 1) g4)
  else
    some h
def fX12_copies_l2 (a0 : Nat) (a1 : Nat) (x2 : Int32) : Nat → Int32 → AH → Option AH
  | 0, _, _ => none
  | n + 1, x3, h => fX12_copies_l2b a0 a1 (fX12_copies_l2 a0 a1 x2 n) x2 x3 h
theorem sX12_copies_l2b (a0 : Nat) (a1 : Nat) (ia0 : isA a0) (ia1 : isA a1) {rec : Int32 → AH → Option AH} {x2 : Int32} (hR : ∀ (x3 : Int32) (h : AH), Sim RX12 cX12_copies 4 none 1 (Option.map oV) (rec x3 h) 2 [(0, .ref a0), (1, .ref a1), (2, .int x2), (3, .int x3)] [] h) : ∀ (x3 : Int32) (h : AH), Sim RX12 cX12_copies 4 none 1 (Option.map oV) (fX12_copies_l2b a0 a1 rec x2 x3 h) 2 [(0, .ref a0), (1, .ref a1), (2, .int x2), (3, .int x3)] [] h := by
  intro x3 h
  unfold fX12_copies_l2b
  refine sim_iload_n 3 rfl dX12_copies_2 ?_
  refine sim_iload_n 2 rfl dX12_copies_3 ?_
  refine sim_icmp_ge (tgt := 19) dX12_copies_4 (by decide) (fun c1 => ?_) (fun c1 => ?_)
  · exact sim_vret rfl rfl dX12_copies_19
  · refine sim_aload_n 1 rfl dX12_copies_7 ?_
    refine sim_iload_n 3 rfl dX12_copies_8 ?_
    refine sim_aload_n 0 rfl dX12_copies_9 ?_
    refine sim_iload_n 3 rfl dX12_copies_10 ?_
    refine sim_nguard (fun c2 => ?_)
    refine sim_iald ia0 c2 dX12_copies_11 ?_
    refine sim_nguard (fun c3 => ?_)
    refine sim_iast ia1 c3 dX12_copies_12 ?_
    refine sim_nmH (fun g4 => ?_)
    refine sim_iinc (v := x3 + 1) (L' := [(3, .int (x3 + 1)), (0, .ref a0), (1, .ref a1), (2, .int x2)]) 3 rfl rfl rfl (by decide) dX12_copies_13 ?_
    refine sim_goto (tgt := 2) dX12_copies_16 (by decide) ?_
    refine sim_sub [1, 2, 3, 0] rfl ?_
    exact hR (x3 + 1) g4
theorem sX12_copies_l2 (a0 : Nat) (a1 : Nat) (ia0 : isA a0) (ia1 : isA a1) {x2 : Int32} : ∀ (n : Nat) (x3 : Int32) (h : AH), Sim RX12 cX12_copies 4 none 1 (Option.map oV) (fX12_copies_l2 a0 a1 x2 n x3 h) 2 [(0, .ref a0), (1, .ref a1), (2, .int x2), (3, .int x3)] [] h := by
  intro n
  induction n with
  | zero => intro x3 h; exact sim_none
  | succ n ih => intro x3 h; exact sX12_copies_l2b a0 a1 ia0 ia1 ih x3 h
def fX12_copies (a0 : Nat) (a1 : Nat) (p2 : Int32) (h : AH) : Option AH :=
  fX12_copies_l2 a0 a1 p2 fuel0 (0 : Int32) h
theorem sX12_copies (a0 : Nat) (a1 : Nat) (ia0 : isA a0) (ia1 : isA a1) (p2 : Int32) (h : AH) : Sim RX12 cX12_copies 4 none 1 (Option.map oV) (fX12_copies a0 a1 p2 h) 0 [(0, .ref a0), (1, .ref a1), (2, .int p2)] [] h := by
  unfold fX12_copies
  refine sim_iconst (v := 0) (by decide) dX12_copies_0 ?_
  refine sim_istore_n (L' := [(3, .int (0 : Int32)), (0, .ref a0), (1, .ref a1), (2, .int p2)]) rfl (by decide) dX12_copies_1 ?_
  refine sim_sub [1, 2, 3, 0] rfl ?_
  refine sX12_copies_l2 a0 a1 ia0 ia1 _ (0 : Int32) h
theorem okX12_copies (a0 : Nat) (ia0 : isA a0) (a1 : Nat) (ia1 : isA a1) (p2 : Int32) (h : AH) (b : AH) (e : fX12_copies a0 a1 p2 h = some b) : Ok yX12_copies cX12_copies 4 none 1 [.ref a0, .ref a1, .int p2] h (none, b) := ok_of (sX12_copies a0 a1 ia0 ia1 p2 h) (by rw [e]; rfl) (by decide +kernel) (Nat.le_of_ble_eq_true rfl)
def fX12_keep (h : AH) : Option (Int32 × AH) :=
  letT (sI h 75 55 (1 : Int32)) (fun g1 =>
  letT (sI g1 75 56 (g1.1 75 0)) (fun g2 =>
  letT (sI g2 75 57 (g2.1 75 2)) (fun g3 =>
  letT (sI g3 75 58 (g3.1 75 1)) (fun g4 =>
  (fX12_copies 76 111 (10 : Int32) g4).bind (fun b5 =>
  (fX12_copies 77 112 (20 : Int32) b5).bind (fun b7 =>
  (fX12_copies 78 113 (20 : Int32) b7).bind (fun b9 =>
  (fX12_copies 79 114 (20 : Int32) b9).bind (fun b11 =>
  (fX12_copies 80 115 (20 : Int32) b11).bind (fun b13 =>
  (fX12_copies 81 116 (8 : Int32) b13).bind (fun b15 =>
  some (b15.1 75 2, b15)))))))))))
theorem sX12_keep (h : AH) : Sim RX12 cX12_keep 1 (some .int) 2 (Option.map oI) (fX12_keep h) 0 [(0, .ref 75)] [] h := by
  unfold fX12_keep
  refine sim_aload_n 0 rfl dX12_keep_0 ?_
  refine sim_iconst (v := 1) (by decide) dX12_keep_1 ?_
  refine sim_putI fpX12_402 rfl rfl rfl rfl dX12_keep_2 ?_
  refine sim_nmH (fun g1 => ?_)
  refine sim_aload_n 0 rfl dX12_keep_5 ?_
  refine sim_aload_n 0 rfl dX12_keep_6 ?_
  refine sim_getI flX12_134 rfl rfl dX12_keep_7 ?_
  refine sim_putI fpX12_406 rfl rfl rfl rfl dX12_keep_10 ?_
  refine sim_nmH (fun g2 => ?_)
  refine sim_aload_n 0 rfl dX12_keep_13 ?_
  refine sim_aload_n 0 rfl dX12_keep_14 ?_
  refine sim_getI flX12_145 rfl rfl dX12_keep_15 ?_
  refine sim_putI fpX12_409 rfl rfl rfl rfl dX12_keep_18 ?_
  refine sim_nmH (fun g3 => ?_)
  refine sim_aload_n 0 rfl dX12_keep_21 ?_
  refine sim_aload_n 0 rfl dX12_keep_22 ?_
  refine sim_getI flX12_138 rfl rfl dX12_keep_23 ?_
  refine sim_putI fpX12_412 rfl rfl rfl rfl dX12_keep_26 ?_
  refine sim_nmH (fun g4 => ?_)
  refine sim_aload_n 0 rfl dX12_keep_29 ?_
  refine sim_getR flX12_7 rfl rfl dX12_keep_30 ?_
  refine sim_aload_n 0 rfl dX12_keep_33 ?_
  refine sim_getR flX12_116 rfl rfl dX12_keep_34 ?_
  refine sim_bipush (v := 10) (by decide) dX12_keep_37 ?_
  refine sim_bind (fun b5 e6 => ?_)
  refine sim_cS (As := [.ref 76, .ref 111, .int (10 : Int32)]) (st := []) (r := none) (h1 := b5) (okX12_copies 76 rfl 111 rfl (10 : Int32) g4 b5 e6) (fun _ => rfl) mlX12_415 mtX12_copies rfl (Nat.le_of_ble_eq_true rfl) rfl (Nat.le_of_ble_eq_true rfl) dX12_keep_39 ?_
  refine sim_aload_n 0 rfl dX12_keep_42 ?_
  refine sim_getR flX12_13 rfl rfl dX12_keep_43 ?_
  refine sim_aload_n 0 rfl dX12_keep_46 ?_
  refine sim_getR flX12_119 rfl rfl dX12_keep_47 ?_
  refine sim_bipush (v := 20) (by decide) dX12_keep_50 ?_
  refine sim_bind (fun b7 e8 => ?_)
  refine sim_cS (As := [.ref 77, .ref 112, .int (20 : Int32)]) (st := []) (r := none) (h1 := b7) (okX12_copies 77 rfl 112 rfl (20 : Int32) b5 b7 e8) (fun _ => rfl) mlX12_415 mtX12_copies rfl (Nat.le_of_ble_eq_true rfl) rfl (Nat.le_of_ble_eq_true rfl) dX12_keep_52 ?_
  refine sim_aload_n 0 rfl dX12_keep_55 ?_
  refine sim_getR flX12_16 rfl rfl dX12_keep_56 ?_
  refine sim_aload_n 0 rfl dX12_keep_59 ?_
  refine sim_getR flX12_122 rfl rfl dX12_keep_60 ?_
  refine sim_bipush (v := 20) (by decide) dX12_keep_63 ?_
  refine sim_bind (fun b9 e10 => ?_)
  refine sim_cS (As := [.ref 78, .ref 113, .int (20 : Int32)]) (st := []) (r := none) (h1 := b9) (okX12_copies 78 rfl 113 rfl (20 : Int32) b7 b9 e10) (fun _ => rfl) mlX12_415 mtX12_copies rfl (Nat.le_of_ble_eq_true rfl) rfl (Nat.le_of_ble_eq_true rfl) dX12_keep_65 ?_
  refine sim_aload_n 0 rfl dX12_keep_68 ?_
  refine sim_getR flX12_19 rfl rfl dX12_keep_69 ?_
  refine sim_aload_n 0 rfl dX12_keep_72 ?_
  refine sim_getR flX12_125 rfl rfl dX12_keep_73 ?_
  refine sim_bipush (v := 20) (by decide) dX12_keep_76 ?_
  refine sim_bind (fun b11 e12 => ?_)
  refine sim_cS (As := [.ref 79, .ref 114, .int (20 : Int32)]) (st := []) (r := none) (h1 := b11) (okX12_copies 79 rfl 114 rfl (20 : Int32) b9 b11 e12) (fun _ => rfl) mlX12_415 mtX12_copies rfl (Nat.le_of_ble_eq_true rfl) rfl (Nat.le_of_ble_eq_true rfl) dX12_keep_78 ?_
  refine sim_aload_n 0 rfl dX12_keep_81 ?_
  refine sim_getR flX12_22 rfl rfl dX12_keep_82 ?_
  refine sim_aload_n 0 rfl dX12_keep_85 ?_
  refine sim_getR flX12_128 rfl rfl dX12_keep_86 ?_
  refine sim_bipush (v := 20) (by decide) dX12_keep_89 ?_
  refine sim_bind (fun b13 e14 => ?_)
  refine sim_cS (As := [.ref 80, .ref 115, .int (20 : Int32)]) (st := []) (r := none) (h1 := b13) (okX12_copies 80 rfl 115 rfl (20 : Int32) b11 b13 e14) (fun _ => rfl) mlX12_415 mtX12_copies rfl (Nat.le_of_ble_eq_true rfl) rfl (Nat.le_of_ble_eq_true rfl) dX12_keep_91 ?_
  refine sim_aload_n 0 rfl dX12_keep_94 ?_
  refine sim_getR flX12_25 rfl rfl dX12_keep_95 ?_
  refine sim_aload_n 0 rfl dX12_keep_98 ?_
  refine sim_getR flX12_131 rfl rfl dX12_keep_99 ?_
  refine sim_bipush (v := 8) (by decide) dX12_keep_102 ?_
  refine sim_bind (fun b15 e16 => ?_)
  refine sim_cS (As := [.ref 81, .ref 116, .int (8 : Int32)]) (st := []) (r := none) (h1 := b15) (okX12_copies 81 rfl 116 rfl (8 : Int32) b13 b15 e16) (fun _ => rfl) mlX12_415 mtX12_copies rfl (Nat.le_of_ble_eq_true rfl) rfl (Nat.le_of_ble_eq_true rfl) dX12_keep_104 ?_
  refine sim_aload_n 0 rfl dX12_keep_107 ?_
  refine sim_getI flX12_145 rfl rfl dX12_keep_108 ?_
  exact sim_iret rfl rfl dX12_keep_111
theorem okX12_keep (h : AH) (b : Int32 × AH) (e : fX12_keep h = some b) : Ok yX12_keep cX12_keep 1 (some .int) 2 [.ref 75] h (some (.int b.1), b.2) := ok_of (sX12_keep h) (by rw [e]; rfl) (by decide +kernel) (Nat.le_of_ble_eq_true rfl)
def fX12_undo (h : AH) : Option (Int32 × AH) :=
  if (h.1 75 55) = 0 then
    some ((0 : Int32), h)
  else
    letT (sI h 75 0 (h.1 75 56)) (fun g2 =>
    letT (sI g2 75 2 (g2.1 75 57)) (fun g3 =>
    letT (sI g3 75 1 (g3.1 75 58)) (fun g4 =>
    (fX12_copies 111 76 (10 : Int32) g4).bind (fun b5 =>
    (fX12_copies 112 77 (20 : Int32) b5).bind (fun b7 =>
    (fX12_copies 113 78 (20 : Int32) b7).bind (fun b9 =>
    (fX12_copies 114 79 (20 : Int32) b9).bind (fun b11 =>
    (fX12_copies 115 80 (20 : Int32) b11).bind (fun b13 =>
    (fX12_copies 116 81 (8 : Int32) b13).bind (fun b15 =>
    some ((1 : Int32), b15))))))))))
theorem sX12_undo (h : AH) : Sim RX12 cX12_undo 1 (some .boolean) 2 (Option.map oI) (fX12_undo h) 0 [(0, .ref 75)] [] h := by
  unfold fX12_undo
  refine sim_aload_n 0 rfl dX12_undo_0 ?_
  refine sim_getI flX12_402 rfl rfl dX12_undo_1 ?_
  refine sim_if_ne (tgt := 9) dX12_undo_4 (by decide) (fun c1 => ?_) (fun c1 => ?_)
  · refine sim_aload_n 0 rfl dX12_undo_9 ?_
    refine sim_aload_n 0 rfl dX12_undo_10 ?_
    refine sim_getI flX12_406 rfl rfl dX12_undo_11 ?_
    refine sim_putI fpX12_134 rfl rfl rfl rfl dX12_undo_14 ?_
    refine sim_nmH (fun g2 => ?_)
    refine sim_aload_n 0 rfl dX12_undo_17 ?_
    refine sim_aload_n 0 rfl dX12_undo_18 ?_
    refine sim_getI flX12_409 rfl rfl dX12_undo_19 ?_
    refine sim_putI fpX12_145 rfl rfl rfl rfl dX12_undo_22 ?_
    refine sim_nmH (fun g3 => ?_)
    refine sim_aload_n 0 rfl dX12_undo_25 ?_
    refine sim_aload_n 0 rfl dX12_undo_26 ?_
    refine sim_getI flX12_412 rfl rfl dX12_undo_27 ?_
    refine sim_putI fpX12_138 rfl rfl rfl rfl dX12_undo_30 ?_
    refine sim_nmH (fun g4 => ?_)
    refine sim_aload_n 0 rfl dX12_undo_33 ?_
    refine sim_getR flX12_116 rfl rfl dX12_undo_34 ?_
    refine sim_aload_n 0 rfl dX12_undo_37 ?_
    refine sim_getR flX12_7 rfl rfl dX12_undo_38 ?_
    refine sim_bipush (v := 10) (by decide) dX12_undo_41 ?_
    refine sim_bind (fun b5 e6 => ?_)
    refine sim_cS (As := [.ref 111, .ref 76, .int (10 : Int32)]) (st := []) (r := none) (h1 := b5) (okX12_copies 111 rfl 76 rfl (10 : Int32) g4 b5 e6) (fun _ => rfl) mlX12_415 mtX12_copies rfl (Nat.le_of_ble_eq_true rfl) rfl (Nat.le_of_ble_eq_true rfl) dX12_undo_43 ?_
    refine sim_aload_n 0 rfl dX12_undo_46 ?_
    refine sim_getR flX12_119 rfl rfl dX12_undo_47 ?_
    refine sim_aload_n 0 rfl dX12_undo_50 ?_
    refine sim_getR flX12_13 rfl rfl dX12_undo_51 ?_
    refine sim_bipush (v := 20) (by decide) dX12_undo_54 ?_
    refine sim_bind (fun b7 e8 => ?_)
    refine sim_cS (As := [.ref 112, .ref 77, .int (20 : Int32)]) (st := []) (r := none) (h1 := b7) (okX12_copies 112 rfl 77 rfl (20 : Int32) b5 b7 e8) (fun _ => rfl) mlX12_415 mtX12_copies rfl (Nat.le_of_ble_eq_true rfl) rfl (Nat.le_of_ble_eq_true rfl) dX12_undo_56 ?_
    refine sim_aload_n 0 rfl dX12_undo_59 ?_
    refine sim_getR flX12_122 rfl rfl dX12_undo_60 ?_
    refine sim_aload_n 0 rfl dX12_undo_63 ?_
    refine sim_getR flX12_16 rfl rfl dX12_undo_64 ?_
    refine sim_bipush (v := 20) (by decide) dX12_undo_67 ?_
    refine sim_bind (fun b9 e10 => ?_)
    refine sim_cS (As := [.ref 113, .ref 78, .int (20 : Int32)]) (st := []) (r := none) (h1 := b9) (okX12_copies 113 rfl 78 rfl (20 : Int32) b7 b9 e10) (fun _ => rfl) mlX12_415 mtX12_copies rfl (Nat.le_of_ble_eq_true rfl) rfl (Nat.le_of_ble_eq_true rfl) dX12_undo_69 ?_
    refine sim_aload_n 0 rfl dX12_undo_72 ?_
    refine sim_getR flX12_125 rfl rfl dX12_undo_73 ?_
    refine sim_aload_n 0 rfl dX12_undo_76 ?_
    refine sim_getR flX12_19 rfl rfl dX12_undo_77 ?_
    refine sim_bipush (v := 20) (by decide) dX12_undo_80 ?_
    refine sim_bind (fun b11 e12 => ?_)
    refine sim_cS (As := [.ref 114, .ref 79, .int (20 : Int32)]) (st := []) (r := none) (h1 := b11) (okX12_copies 114 rfl 79 rfl (20 : Int32) b9 b11 e12) (fun _ => rfl) mlX12_415 mtX12_copies rfl (Nat.le_of_ble_eq_true rfl) rfl (Nat.le_of_ble_eq_true rfl) dX12_undo_82 ?_
    refine sim_aload_n 0 rfl dX12_undo_85 ?_
    refine sim_getR flX12_128 rfl rfl dX12_undo_86 ?_
    refine sim_aload_n 0 rfl dX12_undo_89 ?_
    refine sim_getR flX12_22 rfl rfl dX12_undo_90 ?_
    refine sim_bipush (v := 20) (by decide) dX12_undo_93 ?_
    refine sim_bind (fun b13 e14 => ?_)
    refine sim_cS (As := [.ref 115, .ref 80, .int (20 : Int32)]) (st := []) (r := none) (h1 := b13) (okX12_copies 115 rfl 80 rfl (20 : Int32) b11 b13 e14) (fun _ => rfl) mlX12_415 mtX12_copies rfl (Nat.le_of_ble_eq_true rfl) rfl (Nat.le_of_ble_eq_true rfl) dX12_undo_95 ?_
    refine sim_aload_n 0 rfl dX12_undo_98 ?_
    refine sim_getR flX12_131 rfl rfl dX12_undo_99 ?_
    refine sim_aload_n 0 rfl dX12_undo_102 ?_
    refine sim_getR flX12_25 rfl rfl dX12_undo_103 ?_
    refine sim_bipush (v := 8) (by decide) dX12_undo_106 ?_
    refine sim_bind (fun b15 e16 => ?_)
    refine sim_cS (As := [.ref 116, .ref 81, .int (8 : Int32)]) (st := []) (r := none) (h1 := b15) (okX12_copies 116 rfl 81 rfl (8 : Int32) b13 b15 e16) (fun _ => rfl) mlX12_415 mtX12_copies rfl (Nat.le_of_ble_eq_true rfl) rfl (Nat.le_of_ble_eq_true rfl) dX12_undo_108 ?_
    refine sim_iconst (v := 1) (by decide) dX12_undo_111 ?_
    exact sim_zret rfl rfl rfl dX12_undo_112
  · refine sim_iconst (v := 0) (by decide) dX12_undo_7 ?_
    exact sim_zret rfl rfl rfl dX12_undo_8
theorem okX12_undo (h : AH) (b : Int32 × AH) (e : fX12_undo h = some b) : Ok yX12_undo cX12_undo 1 (some .boolean) 2 [.ref 75] h (some (.int b.1), b.2) := ok_of (sX12_undo h) (by rw [e]; rfl) (by decide +kernel) (Nat.le_of_ble_eq_true rfl)
def fX12_tapeNumber_l6b (rec : Int32 → Int32 → Option Int32) (x1 : Int32) (h : AH) (x2 : Int32) (x3 : Int32) : Option Int32 :=
  if x3 < (((4 : Int32) * x1) + (4 : Int32)) then
    if x3 < 0 ∨ 220 ≤ x3.toNatClampNeg then none else
    letT ((jshl x2 (8 : Int32)) ||| ((h.1 82 x3.toNatClampNeg) &&& (255 : Int32))) (fun v4 =>
    rec v4 (x3 + 1))
  else
    some x2
def fX12_tapeNumber_l6 (x1 : Int32) (h : AH) : Nat → Int32 → Int32 → Option Int32
  | 0, _, _ => none
  | n + 1, x2, x3 => fX12_tapeNumber_l6b (fX12_tapeNumber_l6 x1 h n) x1 h x2 x3
theorem sX12_tapeNumber_l6b {rec : Int32 → Int32 → Option Int32} {x1 : Int32} {h : AH} (hR : ∀ (x2 : Int32) (x3 : Int32), Sim RX12 cX12_tapeNumber 4 (some .int) 1 (Option.map (pI h)) (rec x2 x3) 6 [(0, .ref 75), (1, .int x1), (2, .int x2), (3, .int x3)] [] h) : ∀ (x2 : Int32) (x3 : Int32), Sim RX12 cX12_tapeNumber 4 (some .int) 1 (Option.map (pI h)) (fX12_tapeNumber_l6b rec x1 h x2 x3) 6 [(0, .ref 75), (1, .int x1), (2, .int x2), (3, .int x3)] [] h := by
  intro x2 x3
  unfold fX12_tapeNumber_l6b
  refine sim_iload_n 3 rfl dX12_tapeNumber_6 ?_
  refine sim_iconst (v := 4) (by decide) dX12_tapeNumber_7 ?_
  refine sim_iload_n 1 rfl dX12_tapeNumber_8 ?_
  refine sim_imul dX12_tapeNumber_9 ?_
  refine sim_iconst (v := 4) (by decide) dX12_tapeNumber_10 ?_
  refine sim_iadd dX12_tapeNumber_11 ?_
  refine sim_icmp_ge (tgt := 37) dX12_tapeNumber_12 (by decide) (fun c2 => ?_) (fun c2 => ?_)
  · refine sim_iload_n 2 rfl dX12_tapeNumber_37 ?_
    exact sim_iret rfl rfl dX12_tapeNumber_38
  · refine sim_iload_n 2 rfl dX12_tapeNumber_15 ?_
    refine sim_bipush (v := 8) (by decide) dX12_tapeNumber_16 ?_
    refine sim_ishl dX12_tapeNumber_18 ?_
    refine sim_aload_n 0 rfl dX12_tapeNumber_19 ?_
    refine sim_getR flX12_28 rfl rfl dX12_tapeNumber_20 ?_
    refine sim_iload_n 3 rfl dX12_tapeNumber_23 ?_
    refine sim_nguard (fun c3 => ?_)
    refine sim_bald rfl c3 dX12_tapeNumber_24 ?_
    refine sim_sipush (v := 255) (by decide) dX12_tapeNumber_25 ?_
    refine sim_iand dX12_tapeNumber_28 ?_
    refine sim_ior dX12_tapeNumber_29 ?_
    refine sim_nmI (fun v4 => ?_)
    refine sim_istore_n (L' := [(2, .int v4), (0, .ref 75), (1, .int x1), (3, .int x3)]) rfl (by decide) dX12_tapeNumber_30 ?_
    refine sim_iinc (v := x3 + 1) (L' := [(3, .int (x3 + 1)), (2, .int v4), (0, .ref 75), (1, .int x1)]) 3 rfl rfl rfl (by decide) dX12_tapeNumber_31 ?_
    refine sim_goto (tgt := 6) dX12_tapeNumber_34 (by decide) ?_
    refine sim_sub [2, 3, 1, 0] rfl ?_
    exact hR v4 (x3 + 1)
theorem sX12_tapeNumber_l6 {x1 : Int32} {h : AH} : ∀ (n : Nat) (x2 : Int32) (x3 : Int32), Sim RX12 cX12_tapeNumber 4 (some .int) 1 (Option.map (pI h)) (fX12_tapeNumber_l6 x1 h n x2 x3) 6 [(0, .ref 75), (1, .int x1), (2, .int x2), (3, .int x3)] [] h := by
  intro n
  induction n with
  | zero => intro x2 x3; exact sim_none
  | succ n ih => intro x2 x3; exact sX12_tapeNumber_l6b ih x2 x3
def fX12_tapeNumber (p1 : Int32) (h : AH) : Option Int32 :=
  letT ((4 : Int32) * p1) (fun v1 =>
  fX12_tapeNumber_l6 p1 h fuel0 (0 : Int32) v1)
theorem sX12_tapeNumber (p1 : Int32) (h : AH) : Sim RX12 cX12_tapeNumber 4 (some .int) 1 (Option.map (pI h)) (fX12_tapeNumber p1 h) 0 [(0, .ref 75), (1, .int p1)] [] h := by
  unfold fX12_tapeNumber
  refine sim_iconst (v := 0) (by decide) dX12_tapeNumber_0 ?_
  refine sim_istore_n (L' := [(2, .int (0 : Int32)), (0, .ref 75), (1, .int p1)]) rfl (by decide) dX12_tapeNumber_1 ?_
  refine sim_iconst (v := 4) (by decide) dX12_tapeNumber_2 ?_
  refine sim_iload_n 2 rfl dX12_tapeNumber_3 ?_
  refine sim_imul dX12_tapeNumber_4 ?_
  refine sim_nmI (fun v1 => ?_)
  refine sim_istore_n (L' := [(3, .int v1), (2, .int (0 : Int32)), (0, .ref 75), (1, .int p1)]) rfl (by decide) dX12_tapeNumber_5 ?_
  refine sim_sub [2, 3, 1, 0] rfl ?_
  refine sX12_tapeNumber_l6 _ (0 : Int32) v1
theorem okX12_tapeNumber (p1 : Int32) (h : AH) (b : Int32) (e : fX12_tapeNumber p1 h = some b) : Ok yX12_tapeNumber cX12_tapeNumber 4 (some .int) 1 [.ref 75, .int p1] h (some (.int b), h) := ok_of (sX12_tapeNumber p1 h) (by rw [e]; rfl) (by decide +kernel) (Nat.le_of_ble_eq_true rfl)
def fX12_check_l30b (rec : Int32 → Option (Int32 × AH)) (x1 : Int32) (h : AH) (x2 : Int32) : Option (Int32 × AH) :=
  if x2 < x1 then
    if x2 = (h.1 75 2) then
      some (x2, h)
    else
      (fX12_tapeNumber x2 h).bind (fun b6 =>
      if x2 < 0 ∨ 20 ≤ x2.toNatClampNeg then none else
      if b6 = (h.1 77 x2.toNatClampNeg) then
        rec (x2 + 1)
      else
        some (x2, h))
  else
    some ((-1 : Int32), h)
def fX12_check_l30 (x1 : Int32) (h : AH) : Nat → Int32 → Option (Int32 × AH)
  | 0, _ => none
  | n + 1, x2 => fX12_check_l30b (fX12_check_l30 x1 h n) x1 h x2
theorem sX12_check_l30b {rec : Int32 → Option (Int32 × AH)} {x1 : Int32} {h : AH} (hR : ∀ (x2 : Int32), Sim RX12 cX12_check 3 (some .int) 2 (Option.map oI) (rec x2) 30 [(0, .ref 75), (1, .int x1), (2, .int x2)] [] h) : ∀ (x2 : Int32), Sim RX12 cX12_check 3 (some .int) 2 (Option.map oI) (fX12_check_l30b rec x1 h x2) 30 [(0, .ref 75), (1, .int x1), (2, .int x2)] [] h := by
  intro x2
  unfold fX12_check_l30b
  refine sim_iload_n 2 rfl dX12_check_30 ?_
  refine sim_iload_n 1 rfl dX12_check_31 ?_
  refine sim_icmp_ge (tgt := 65) dX12_check_32 (by decide) (fun c4 => ?_) (fun c4 => ?_)
  · refine sim_iconst (v := -1) (by decide) dX12_check_65 ?_
    exact sim_iret rfl rfl dX12_check_66
  · refine sim_iload_n 2 rfl dX12_check_35 ?_
    refine sim_aload_n 0 rfl dX12_check_36 ?_
    refine sim_getI flX12_145 rfl rfl dX12_check_37 ?_
    refine sim_icmp_eq (tgt := 57) dX12_check_40 (by decide) (fun c5 => ?_) (fun c5 => ?_)
    · refine sim_iload_n 2 rfl dX12_check_57 ?_
      exact sim_iret rfl rfl dX12_check_58
    · refine sim_aload_n 0 rfl dX12_check_43 ?_
      refine sim_iload_n 2 rfl dX12_check_44 ?_
      refine sim_bind (fun b6 e7 => ?_)
      refine sim_cV (As := [.int x2]) (st := []) (r := (some (.int b6))) (h1 := h) (okX12_tapeNumber x2 h b6 e7) (fun _ => rfl) mlX12_419 mtX12_tapeNumber rfl rfl rfl rfl (Nat.le_of_ble_eq_true rfl) rfl (Nat.le_of_ble_eq_true rfl) dX12_check_45 ?_
      refine sim_aload_n 0 rfl dX12_check_48 ?_
      refine sim_getR flX12_13 rfl rfl dX12_check_49 ?_
      refine sim_iload_n 2 rfl dX12_check_52 ?_
      refine sim_nguard (fun c8 => ?_)
      refine sim_iald rfl c8 dX12_check_53 ?_
      refine sim_icmp_eq (tgt := 59) dX12_check_54 (by decide) (fun c9 => ?_) (fun c9 => ?_)
      · refine sim_iinc (v := x2 + 1) (L' := [(2, .int (x2 + 1)), (0, .ref 75), (1, .int x1)]) 2 rfl rfl rfl (by decide) dX12_check_59 ?_
        refine sim_goto (tgt := 30) dX12_check_62 (by decide) ?_
        refine sim_sub [1, 2, 0] rfl ?_
        exact hR (x2 + 1)
      · refine sim_iload_n 2 rfl dX12_check_57 ?_
        exact sim_iret rfl rfl dX12_check_58
theorem sX12_check_l30 {x1 : Int32} {h : AH} : ∀ (n : Nat) (x2 : Int32), Sim RX12 cX12_check 3 (some .int) 2 (Option.map oI) (fX12_check_l30 x1 h n x2) 30 [(0, .ref 75), (1, .int x1), (2, .int x2)] [] h := by
  intro n
  induction n with
  | zero => intro x2; exact sim_none
  | succ n ih => intro x2; exact sX12_check_l30b ih x2
def fX12_check (p1 : Int32) (h : AH) : Option (Int32 × AH) :=
  if (fX12_in p1 (0 : Int32) (20 : Int32) h) = 0 then
    some ((-2 : Int32), h)
  else
    if ((h.1 75 10) / (4 : Int32)) < p1 then
      some ((-2 : Int32), h)
    else
      letT (sI h 75 10 (0 : Int32)) (fun g3 =>
      fX12_check_l30 p1 g3 fuel0 (0 : Int32))
theorem sX12_check (p1 : Int32) (h : AH) : Sim RX12 cX12_check 3 (some .int) 2 (Option.map oI) (fX12_check p1 h) 0 [(0, .ref 75), (1, .int p1)] [] h := by
  unfold fX12_check
  refine sim_iload_n 1 rfl dX12_check_0 ?_
  refine sim_iconst (v := 0) (by decide) dX12_check_1 ?_
  refine sim_bipush (v := 20) (by decide) dX12_check_2 ?_
  refine sim_cS (As := [.int p1, .int (0 : Int32), .int (20 : Int32)]) (st := []) (r := (some (.int (fX12_in p1 (0 : Int32) (20 : Int32) h)))) (h1 := h) (okX12_in p1 (0 : Int32) (20 : Int32) h) (fun _ => rfl) mlX12_141 mtX12_in rfl (Nat.le_of_ble_eq_true rfl) rfl (Nat.le_of_ble_eq_true rfl) dX12_check_4 ?_
  refine sim_if_eq (tgt := 20) dX12_check_7 (by decide) (fun c1 => ?_) (fun c1 => ?_)
  · refine sim_bipush (v := -2) (by decide) dX12_check_20 ?_
    exact sim_iret rfl rfl dX12_check_22
  · refine sim_iload_n 1 rfl dX12_check_10 ?_
    refine sim_aload_n 0 rfl dX12_check_11 ?_
    refine sim_getI flX12_148 rfl rfl dX12_check_12 ?_
    refine sim_iconst (v := 4) (by decide) dX12_check_15 ?_
    refine sim_idiv (by decide) dX12_check_16 ?_
    refine sim_icmp_le (tgt := 23) dX12_check_17 (by decide) (fun c2 => ?_) (fun c2 => ?_)
    · refine sim_aload_n 0 rfl dX12_check_23 ?_
      refine sim_iconst (v := 0) (by decide) dX12_check_24 ?_
      refine sim_putI fpX12_148 rfl rfl rfl rfl dX12_check_25 ?_
      refine sim_nmH (fun g3 => ?_)
      refine sim_iconst (v := 0) (by decide) dX12_check_28 ?_
      refine sim_istore_n (L' := [(2, .int (0 : Int32)), (0, .ref 75), (1, .int p1)]) rfl (by decide) dX12_check_29 ?_
      refine sim_sub [1, 2, 0] rfl ?_
      refine sX12_check_l30 _ (0 : Int32)
    · refine sim_bipush (v := -2) (by decide) dX12_check_20 ?_
      exact sim_iret rfl rfl dX12_check_22
theorem okX12_check (p1 : Int32) (h : AH) (b : Int32 × AH) (e : fX12_check p1 h = some b) : Ok yX12_check cX12_check 3 (some .int) 2 [.ref 75, .int p1] h (some (.int b.1), b.2) := ok_of (sX12_check p1 h) (by rw [e]; rfl) (by decide +kernel) (Nat.le_of_ble_eq_true rfl)
def fX12_count (p1 : Int32) (h : AH) : Option (Int32 × AH) :=
  if p1 = 0 then
    some (h.1 75 2, h)
  else
  if p1 = 1 then
    some (h.1 75 28, h)
  else
  if p1 = 2 then
    some (h.1 75 10, h)
  else
  if p1 = 3 then
    some (h.1 75 1, h)
  else
  if p1 = 4 then
    some (h.1 75 0, h)
  else
  if p1 = 5 then
    if (h.1 75 2) = 0 then
      some ((-1 : Int32), h)
    else
      if ((h.1 75 2) - (1 : Int32)) < 0 ∨ 20 ≤ ((h.1 75 2) - (1 : Int32)).toNatClampNeg then none else
      some (h.1 77 ((h.1 75 2) - (1 : Int32)).toNatClampNeg, h)
  else
  if p1 = 6 then
    (fX12_laysTruth h).bind (fun b10 =>
    if (b10.1 75 2) = 0 then
      some ((-1 : Int32), b10)
    else
      if ((b10.1 75 2) - (1 : Int32)) < 0 ∨ 20 ≤ ((b10.1 75 2) - (1 : Int32)).toNatClampNeg then none else
      some (b10.1 87 ((b10.1 75 2) - (1 : Int32)).toNatClampNeg, b10))
  else
  if (fX12_in p1 (10 : Int32) (19 : Int32) h) = 0 then
    some ((-1 : Int32), h)
  else
    if (p1 - (10 : Int32)) < 0 ∨ 10 ≤ (p1 - (10 : Int32)).toNatClampNeg then none else
    some (h.1 76 (p1 - (10 : Int32)).toNatClampNeg, h)
theorem sX12_count (p1 : Int32) (h : AH) : Sim RX12 cX12_count 2 (some .int) 3 (Option.map oI) (fX12_count p1 h) 0 [(0, .ref 75), (1, .int p1)] [] h := by
  unfold fX12_count
  refine sim_iload_n 1 rfl dX12_count_0 ?_
  refine sim_case (v := 0) (tgt := 44) (0) dX12_count_1 (by decide) (by decide) (by decide) rfl (by decide) ?_ (fun c1 => ?_)
  · refine sim_aload_n 0 rfl dX12_count_44 ?_
    refine sim_getI flX12_145 rfl rfl dX12_count_45 ?_
    exact sim_iret rfl rfl dX12_count_48
  refine sim_case (v := 1) (tgt := 49) (1) dX12_count_1 (by decide) (by decide) (by decide) rfl (by decide) ?_ (fun c2 => ?_)
  · refine sim_aload_n 0 rfl dX12_count_49 ?_
    refine sim_getI flX12_301 rfl rfl dX12_count_50 ?_
    exact sim_iret rfl rfl dX12_count_53
  refine sim_case (v := 2) (tgt := 54) (2) dX12_count_1 (by decide) (by decide) (by decide) rfl (by decide) ?_ (fun c3 => ?_)
  · refine sim_aload_n 0 rfl dX12_count_54 ?_
    refine sim_getI flX12_148 rfl rfl dX12_count_55 ?_
    exact sim_iret rfl rfl dX12_count_58
  refine sim_case (v := 3) (tgt := 59) (3) dX12_count_1 (by decide) (by decide) (by decide) rfl (by decide) ?_ (fun c4 => ?_)
  · refine sim_aload_n 0 rfl dX12_count_59 ?_
    refine sim_getI flX12_138 rfl rfl dX12_count_60 ?_
    exact sim_iret rfl rfl dX12_count_63
  refine sim_case (v := 4) (tgt := 64) (4) dX12_count_1 (by decide) (by decide) (by decide) rfl (by decide) ?_ (fun c5 => ?_)
  · refine sim_aload_n 0 rfl dX12_count_64 ?_
    refine sim_getI flX12_134 rfl rfl dX12_count_65 ?_
    exact sim_iret rfl rfl dX12_count_68
  refine sim_case (v := 5) (tgt := 69) (5) dX12_count_1 (by decide) (by decide) (by decide) rfl (by decide) ?_ (fun c6 => ?_)
  · refine sim_aload_n 0 rfl dX12_count_69 ?_
    refine sim_getI flX12_145 rfl rfl dX12_count_70 ?_
    refine sim_if_ne (tgt := 80) dX12_count_73 (by decide) (fun c7 => ?_) (fun c7 => ?_)
    · refine sim_aload_n 0 rfl dX12_count_80 ?_
      refine sim_getR flX12_13 rfl rfl dX12_count_81 ?_
      refine sim_aload_n 0 rfl dX12_count_84 ?_
      refine sim_getI flX12_145 rfl rfl dX12_count_85 ?_
      refine sim_iconst (v := 1) (by decide) dX12_count_88 ?_
      refine sim_isub dX12_count_89 ?_
      refine sim_nguard (fun c8 => ?_)
      refine sim_iald rfl c8 dX12_count_90 ?_
      exact sim_iret rfl rfl dX12_count_91
    · refine sim_iconst (v := -1) (by decide) dX12_count_76 ?_
      refine sim_goto (tgt := 91) dX12_count_77 (by decide) ?_
      exact sim_iret rfl rfl dX12_count_91
  refine sim_case (v := 6) (tgt := 92) (6) dX12_count_1 (by decide) (by decide) (by decide) rfl (by decide) ?_ (fun c9 => ?_)
  · refine sim_aload_n 0 rfl dX12_count_92 ?_
    refine sim_bind (fun b10 e11 => ?_)
    refine sim_cV (As := []) (st := []) (r := none) (h1 := b10) (okX12_laysTruth h b10 e11) (fun _ => rfl) mlX12_212 mtX12_laysTruth rfl rfl rfl rfl (Nat.le_of_ble_eq_true rfl) rfl (Nat.le_of_ble_eq_true rfl) dX12_count_93 ?_
    refine sim_aload_n 0 rfl dX12_count_96 ?_
    refine sim_getI flX12_145 rfl rfl dX12_count_97 ?_
    refine sim_if_ne (tgt := 107) dX12_count_100 (by decide) (fun c12 => ?_) (fun c12 => ?_)
    · refine sim_aload_n 0 rfl dX12_count_107 ?_
      refine sim_getR flX12_44 rfl rfl dX12_count_108 ?_
      refine sim_aload_n 0 rfl dX12_count_111 ?_
      refine sim_getI flX12_145 rfl rfl dX12_count_112 ?_
      refine sim_iconst (v := 1) (by decide) dX12_count_115 ?_
      refine sim_isub dX12_count_116 ?_
      refine sim_nguard (fun c13 => ?_)
      refine sim_iald rfl c13 dX12_count_117 ?_
      exact sim_iret rfl rfl dX12_count_118
    · refine sim_iconst (v := -1) (by decide) dX12_count_103 ?_
      refine sim_goto (tgt := 118) dX12_count_104 (by decide) ?_
      exact sim_iret rfl rfl dX12_count_118
  refine sim_dflt (tgt := 119) dX12_count_1 (by omega) (by decide) ?_
  refine sim_iload_n 1 rfl dX12_count_119 ?_
  refine sim_bipush (v := 10) (by decide) dX12_count_120 ?_
  refine sim_bipush (v := 19) (by decide) dX12_count_122 ?_
  refine sim_cS (As := [.int p1, .int (10 : Int32), .int (19 : Int32)]) (st := []) (r := (some (.int (fX12_in p1 (10 : Int32) (19 : Int32) h)))) (h1 := h) (okX12_in p1 (10 : Int32) (19 : Int32) h) (fun _ => rfl) mlX12_141 mtX12_in rfl (Nat.le_of_ble_eq_true rfl) rfl (Nat.le_of_ble_eq_true rfl) dX12_count_124 ?_
  refine sim_if_eq (tgt := 142) dX12_count_127 (by decide) (fun c14 => ?_) (fun c14 => ?_)
  · refine sim_iconst (v := -1) (by decide) dX12_count_142 ?_
    exact sim_iret rfl rfl dX12_count_143
  · refine sim_aload_n 0 rfl dX12_count_130 ?_
    refine sim_getR flX12_7 rfl rfl dX12_count_131 ?_
    refine sim_iload_n 1 rfl dX12_count_134 ?_
    refine sim_bipush (v := 10) (by decide) dX12_count_135 ?_
    refine sim_isub dX12_count_137 ?_
    refine sim_nguard (fun c15 => ?_)
    refine sim_iald rfl c15 dX12_count_138 ?_
    refine sim_goto (tgt := 143) dX12_count_139 (by decide) ?_
    exact sim_iret rfl rfl dX12_count_143
theorem okX12_count (p1 : Int32) (h : AH) (b : Int32 × AH) (e : fX12_count p1 h = some b) : Ok yX12_count cX12_count 2 (some .int) 3 [.ref 75, .int p1] h (some (.int b.1), b.2) := ok_of (sX12_count p1 h) (by rw [e]; rfl) (by decide +kernel) (Nat.le_of_ble_eq_true rfl)
end
