noncomputable section
def fX2_collectSets_l44b (rec : Int32 → AH → Option AH) (K125 : AH → Option AH) (x2 : Int32) (x3 : Int32) (x4 : Int32) (h : AH) : Option AH :=
  if x4 < (h.1 3 0) then
    (fX11_copyRow 63 64 h).bind (fun b7 =>
    (fX9_slipIn x3 x4 64 b7).bind (fun b9 =>
    (fX11_differing 64 63 (x2 + (1 : Int32)) b9).bind (fun b11 =>
    if b11 = 0 then
      rec (x4 + 1) b9
    else
      if (fX11_isIn b11 x2 b9) = 0 then
        (fX2_addSet b11 (fX11_at 66 x3 b9) b9).bind (fun b15 =>
        rec (x4 + 1) b15)
      else
        rec (x4 + 1) b9)))
  else
    K125 h
def fX2_collectSets_l44 (K125 : AH → Option AH) (x2 : Int32) (x3 : Int32) : Nat → Int32 → AH → Option AH
  | 0, _, _ => none
  | n + 1, x4, h => fX2_collectSets_l44b (fX2_collectSets_l44 K125 x2 x3 n) K125 x2 x3 x4 h
theorem sX2_collectSets_l44b {rec : Int32 → AH → Option AH} {K125 : AH → Option AH} {x2 : Int32} {x3 : Int32} (hR : ∀ (x4 : Int32) (h : AH), Sim RX2 cX2_collectSets 6 none 6 (Option.map oV) (rec x4 h) 44 [(0, .ref 62), (1, .ref 3), (2, .int x2), (3, .int x3), (4, .int x4)] [] h) (hK125 : ∀ (g : AH), Sim RX2 cX2_collectSets 6 none 6 (Option.map oV) (K125 g) 125 [(0, .ref 62), (1, .ref 3), (2, .int x2), (3, .int x3)] [] g) : ∀ (x4 : Int32) (h : AH), Sim RX2 cX2_collectSets 6 none 6 (Option.map oV) (fX2_collectSets_l44b rec K125 x2 x3 x4 h) 44 [(0, .ref 62), (1, .ref 3), (2, .int x2), (3, .int x3), (4, .int x4)] [] h := by
  intro x4 h
  unfold fX2_collectSets_l44b
  refine sim_iload 4 rfl dX2_collectSets_44 ?_
  refine sim_aload_n 1 rfl dX2_collectSets_46 ?_
  refine sim_getI flX2_56 rfl rfl dX2_collectSets_47 ?_
  refine sim_icmp_ge (tgt := 125) dX2_collectSets_50 (by decide) (fun c6 => ?_) (fun c6 => ?_)
  · refine sim_sub [0, 1, 2, 3] rfl ?_
    exact hK125 h
  · refine sim_aload_n 0 rfl dX2_collectSets_53 ?_
    refine sim_getR flX2_9 rfl rfl dX2_collectSets_54 ?_
    refine sim_aload_n 0 rfl dX2_collectSets_57 ?_
    refine sim_getR flX2_15 rfl rfl dX2_collectSets_58 ?_
    refine sim_bind (fun b7 e8 => ?_)
    refine sim_cS (As := [.ref 63, .ref 64]) (st := []) (r := none) (h1 := b7) (okX11_copyRow 63 rfl 64 rfl h b7 e8) (fun _ => rfl) mlX2_59 mtX11_copyRow rfl (Nat.le_of_ble_eq_true rfl) rfl (Nat.le_of_ble_eq_true rfl) dX2_collectSets_61 ?_
    refine sim_aload_n 1 rfl dX2_collectSets_64 ?_
    refine sim_iload_n 3 rfl dX2_collectSets_65 ?_
    refine sim_iload 4 rfl dX2_collectSets_66 ?_
    refine sim_aload_n 0 rfl dX2_collectSets_68 ?_
    refine sim_getR flX2_15 rfl rfl dX2_collectSets_69 ?_
    refine sim_bind (fun b9 e10 => ?_)
    refine sim_cV (As := [.int x3, .int x4, .ref 64]) (st := []) (r := none) (h1 := b9) (okX9_slipIn x3 x4 64 rfl b7 b9 e10) (fun _ => rfl) mlX2_63 mtX9_slipIn rfl rfl rfl rfl (Nat.le_of_ble_eq_true rfl) rfl (Nat.le_of_ble_eq_true rfl) dX2_collectSets_72 ?_
    refine sim_aload_n 0 rfl dX2_collectSets_75 ?_
    refine sim_getR flX2_15 rfl rfl dX2_collectSets_76 ?_
    refine sim_aload_n 0 rfl dX2_collectSets_79 ?_
    refine sim_getR flX2_9 rfl rfl dX2_collectSets_80 ?_
    refine sim_iload_n 2 rfl dX2_collectSets_83 ?_
    refine sim_iconst (v := 1) (by decide) dX2_collectSets_84 ?_
    refine sim_iadd dX2_collectSets_85 ?_
    refine sim_bind (fun b11 e12 => ?_)
    refine sim_cS (As := [.ref 64, .ref 63, .int (x2 + (1 : Int32))]) (st := []) (r := (some (.int b11))) (h1 := b9) (okX11_differing 64 rfl 63 rfl (x2 + (1 : Int32)) b9 b11 e12) (fun _ => rfl) mlX2_67 mtX11_differing rfl (Nat.le_of_ble_eq_true rfl) rfl (Nat.le_of_ble_eq_true rfl) dX2_collectSets_86 ?_
    refine sim_istore (L' := [(5, .int b11), (0, .ref 62), (1, .ref 3), (2, .int x2), (3, .int x3), (4, .int x4)]) rfl (by decide) dX2_collectSets_89 ?_
    refine sim_iload 0 rfl dX2_collectSets_91 ?_
    refine sim_if_eq (tgt := 119) dX2_collectSets_93 (by decide) (fun c13 => ?_) (fun c13 => ?_)
    · refine sim_iinc (v := x4 + 1) (L' := [(4, .int (x4 + 1)), (5, .int b11), (0, .ref 62), (1, .ref 3), (2, .int x2), (3, .int x3)]) 5 rfl rfl rfl (by decide) dX2_collectSets_119 ?_
      refine sim_goto (tgt := 44) dX2_collectSets_122 (by decide) ?_
      refine sim_sub [2, 3, 4, 5, 0] rfl ?_
      exact hR (x4 + 1) b9
    · refine sim_iload 0 rfl dX2_collectSets_96 ?_
      refine sim_iload_n 3 rfl dX2_collectSets_98 ?_
      refine sim_cS (As := [.int b11, .int x2]) (st := []) (r := (some (.int (fX11_isIn b11 x2 b9)))) (h1 := b9) (okX11_isIn b11 x2 b9) (fun _ => rfl) mlX2_71 mtX11_isIn rfl (Nat.le_of_ble_eq_true rfl) rfl (Nat.le_of_ble_eq_true rfl) dX2_collectSets_99 ?_
      refine sim_if_ne (tgt := 119) dX2_collectSets_102 (by decide) (fun c14 => ?_) (fun c14 => ?_)
      · refine sim_iinc (v := x4 + 1) (L' := [(4, .int (x4 + 1)), (5, .int b11), (0, .ref 62), (1, .ref 3), (2, .int x2), (3, .int x3)]) 5 rfl rfl rfl (by decide) dX2_collectSets_119 ?_
        refine sim_goto (tgt := 44) dX2_collectSets_122 (by decide) ?_
        refine sim_sub [2, 3, 4, 5, 0] rfl ?_
        exact hR (x4 + 1) b9
      · refine sim_aload_n 1 rfl dX2_collectSets_105 ?_
        refine sim_iload 0 rfl dX2_collectSets_106 ?_
        refine sim_aload_n 1 rfl dX2_collectSets_108 ?_
        refine sim_getR flX2_21 rfl rfl dX2_collectSets_109 ?_
        refine sim_iload_n 4 rfl dX2_collectSets_112 ?_
        refine sim_cS (As := [.ref 66, .int x3]) (st := [.int b11, .ref 62]) (r := (some (.int (fX11_at 66 x3 b9)))) (h1 := b9) (okX11_at 66 rfl x3 b9) (fun _ => rfl) mlX2_75 mtX11_at rfl (Nat.le_of_ble_eq_true rfl) rfl (Nat.le_of_ble_eq_true rfl) dX2_collectSets_113 ?_
        refine sim_bind (fun b15 e16 => ?_)
        refine sim_cV (As := [.int b11, .int (fX11_at 66 x3 b9)]) (st := []) (r := none) (h1 := b15) (okX2_addSet b11 (fX11_at 66 x3 b9) b9 b15 e16) (fun _ => rfl) mlX2_79 mtX2_addSet rfl rfl rfl rfl (Nat.le_of_ble_eq_true rfl) rfl (Nat.le_of_ble_eq_true rfl) dX2_collectSets_116 ?_
        refine sim_iinc (v := x4 + 1) (L' := [(4, .int (x4 + 1)), (5, .int b11), (0, .ref 62), (1, .ref 3), (2, .int x2), (3, .int x3)]) 5 rfl rfl rfl (by decide) dX2_collectSets_119 ?_
        refine sim_goto (tgt := 44) dX2_collectSets_122 (by decide) ?_
        refine sim_sub [2, 3, 4, 5, 0] rfl ?_
        exact hR (x4 + 1) b15
theorem sX2_collectSets_l44 {K125 : AH → Option AH} {x2 : Int32} {x3 : Int32} (hK125 : ∀ (g : AH), Sim RX2 cX2_collectSets 6 none 6 (Option.map oV) (K125 g) 125 [(0, .ref 62), (1, .ref 3), (2, .int x2), (3, .int x3)] [] g) : ∀ (n : Nat) (x4 : Int32) (h : AH), Sim RX2 cX2_collectSets 6 none 6 (Option.map oV) (fX2_collectSets_l44 K125 x2 x3 n x4 h) 44 [(0, .ref 62), (1, .ref 3), (2, .int x2), (3, .int x3), (4, .int x4)] [] h := by
  intro n
  induction n with
  | zero => intro x4 h; exact sim_none
  | succ n ih => intro x4 h; exact sX2_collectSets_l44b ih hK125 x4 h
def fX2_collectSets_l24b (rec : Int32 → AH → Option AH) (K131 : AH → Option AH) (x2 : Int32) (x3 : Int32) (h : AH) : Option AH :=
  if x3 < x2 then
    letT (fX11_put 66 x3 (h.1 62 4) h) (fun g5 =>
    fX2_collectSets_l44 (fun (g17 : AH) =>
      rec (x3 + 1) g17) x2 x3 fuel0 (0 : Int32) g5)
  else
    K131 h
def fX2_collectSets_l24 (K131 : AH → Option AH) (x2 : Int32) : Nat → Int32 → AH → Option AH
  | 0, _, _ => none
  | n + 1, x3, h => fX2_collectSets_l24b (fX2_collectSets_l24 K131 x2 n) K131 x2 x3 h
theorem sX2_collectSets_l24b {rec : Int32 → AH → Option AH} {K131 : AH → Option AH} {x2 : Int32} (hR : ∀ (x3 : Int32) (h : AH), Sim RX2 cX2_collectSets 6 none 6 (Option.map oV) (rec x3 h) 24 [(0, .ref 62), (1, .ref 3), (2, .int x2), (3, .int x3)] [] h) (hK131 : ∀ (g : AH), Sim RX2 cX2_collectSets 6 none 6 (Option.map oV) (K131 g) 131 [(0, .ref 62), (2, .int x2)] [] g) : ∀ (x3 : Int32) (h : AH), Sim RX2 cX2_collectSets 6 none 6 (Option.map oV) (fX2_collectSets_l24b rec K131 x2 x3 h) 24 [(0, .ref 62), (1, .ref 3), (2, .int x2), (3, .int x3)] [] h := by
  intro x3 h
  unfold fX2_collectSets_l24b
  refine sim_iload_n 3 rfl dX2_collectSets_24 ?_
  refine sim_iload_n 2 rfl dX2_collectSets_25 ?_
  refine sim_icmp_ge (tgt := 131) dX2_collectSets_26 (by decide) (fun c4 => ?_) (fun c4 => ?_)
  · refine sim_sub [0, 2] rfl ?_
    exact hK131 h
  · refine sim_aload_n 0 rfl dX2_collectSets_29 ?_
    refine sim_getR flX2_21 rfl rfl dX2_collectSets_30 ?_
    refine sim_iload_n 3 rfl dX2_collectSets_33 ?_
    refine sim_aload_n 0 rfl dX2_collectSets_34 ?_
    refine sim_getI flX2_24 rfl rfl dX2_collectSets_35 ?_
    refine sim_cS (As := [.ref 66, .int x3, .int (h.1 62 4)]) (st := []) (r := none) (h1 := (fX11_put 66 x3 (h.1 62 4) h)) (okX11_put 66 rfl x3 (h.1 62 4) h) (fun _ => rfl) mlX2_52 mtX11_put rfl (Nat.le_of_ble_eq_true rfl) rfl (Nat.le_of_ble_eq_true rfl) dX2_collectSets_38 ?_
    refine sim_nmH (fun g5 => ?_)
    refine sim_iconst (v := 0) (by decide) dX2_collectSets_41 ?_
    refine sim_istore (L' := [(4, .int (0 : Int32)), (0, .ref 62), (1, .ref 3), (2, .int x2), (3, .int x3)]) rfl (by decide) dX2_collectSets_42 ?_
    refine sim_sub [1, 2, 3, 4, 0] rfl ?_
    refine sX2_collectSets_l44 (fun g17 => ?_) _ (0 : Int32) g5
    · refine sim_iinc (v := x3 + 1) (L' := [(3, .int (x3 + 1)), (0, .ref 62), (1, .ref 3), (2, .int x2)]) 3 rfl rfl rfl (by decide) dX2_collectSets_125 ?_
      refine sim_goto (tgt := 24) dX2_collectSets_128 (by decide) ?_
      refine sim_sub [1, 2, 3, 0] rfl ?_
      exact hR (x3 + 1) g17
theorem sX2_collectSets_l24 {K131 : AH → Option AH} {x2 : Int32} (hK131 : ∀ (g : AH), Sim RX2 cX2_collectSets 6 none 6 (Option.map oV) (K131 g) 131 [(0, .ref 62), (2, .int x2)] [] g) : ∀ (n : Nat) (x3 : Int32) (h : AH), Sim RX2 cX2_collectSets 6 none 6 (Option.map oV) (fX2_collectSets_l24 K131 x2 n x3 h) 24 [(0, .ref 62), (1, .ref 3), (2, .int x2), (3, .int x3)] [] h := by
  intro n
  induction n with
  | zero => intro x3 h; exact sim_none
  | succ n ih => intro x3 h; exact sX2_collectSets_l24b ih hK131 x3 h
def fX2_collectSets (h : AH) : Option AH :=
  letT (sI h 62 4 (0 : Int32)) (fun g1 =>
  (fX9_workOn (0 : Int32) 63 g1).bind (fun b2 =>
  fX2_collectSets_l24 (fun (g18 : AH) =>
    letT (fX11_put 66 (jmax (0 : Int32) (fX6_last b2)) (g18.1 62 4) g18) (fun g19 =>
    some g19)) (fX6_last b2) fuel0 (0 : Int32) b2))
theorem sX2_collectSets (h : AH) : Sim RX2 cX2_collectSets 6 none 6 (Option.map oV) (fX2_collectSets h) 0 [(0, .ref 62), (1, .ref 3)] [] h := by
  unfold fX2_collectSets
  refine sim_aload_n 0 rfl dX2_collectSets_0 ?_
  refine sim_iconst (v := 0) (by decide) dX2_collectSets_1 ?_
  refine sim_putI fpX2_24 rfl rfl rfl rfl dX2_collectSets_2 ?_
  refine sim_nmH (fun g1 => ?_)
  refine sim_aload_n 1 rfl dX2_collectSets_5 ?_
  refine sim_iconst (v := 0) (by decide) dX2_collectSets_6 ?_
  refine sim_aload_n 0 rfl dX2_collectSets_7 ?_
  refine sim_getR flX2_9 rfl rfl dX2_collectSets_8 ?_
  refine sim_bind (fun b2 e3 => ?_)
  refine sim_cV (As := [.int (0 : Int32), .ref 63]) (st := []) (r := none) (h1 := b2) (okX9_workOn (0 : Int32) 63 rfl g1 b2 e3) (fun _ => rfl) mlX2_48 mtX9_workOn rfl rfl rfl rfl (Nat.le_of_ble_eq_true rfl) rfl (Nat.le_of_ble_eq_true rfl) dX2_collectSets_11 ?_
  refine sim_aload_n 1 rfl dX2_collectSets_14 ?_
  refine sim_getR flX2_32 rfl rfl dX2_collectSets_15 ?_
  refine sim_cV (As := []) (st := []) (r := (some (.int (fX6_last b2)))) (h1 := b2) (okX6_last b2) (fun _ => rfl) mlX2_38 mtX6_last rfl rfl rfl rfl (Nat.le_of_ble_eq_true rfl) rfl (Nat.le_of_ble_eq_true rfl) dX2_collectSets_18 ?_
  refine sim_istore_n (L' := [(2, .int (fX6_last b2)), (0, .ref 62), (1, .ref 3)]) rfl (by decide) dX2_collectSets_21 ?_
  refine sim_iconst (v := 0) (by decide) dX2_collectSets_22 ?_
  refine sim_istore_n (L' := [(3, .int (0 : Int32)), (2, .int (fX6_last b2)), (0, .ref 62), (1, .ref 3)]) rfl (by decide) dX2_collectSets_23 ?_
  refine sim_sub [2, 3, 1, 0] rfl ?_
  refine sX2_collectSets_l24 (fun g18 => ?_) _ (0 : Int32) b2
  · refine sim_aload_n 0 rfl dX2_collectSets_131 ?_
    refine sim_getR flX2_21 rfl rfl dX2_collectSets_132 ?_
    refine sim_iconst (v := 0) (by decide) dX2_collectSets_135 ?_
    refine sim_iload_n 1 rfl dX2_collectSets_136 ?_
    refine sim_mmax (gtbl_of 1073 (by decide +kernel) rfl) (by first | decide | omega) (Nat.le_of_ble_eq_true rfl) dX2_collectSets_137 ?_
    refine sim_aload_n 0 rfl dX2_collectSets_140 ?_
    refine sim_getI flX2_24 rfl rfl dX2_collectSets_141 ?_
    refine sim_cS (As := [.ref 66, .int (jmax (0 : Int32) (fX6_last b2)), .int (g18.1 62 4)]) (st := []) (r := none) (h1 := (fX11_put 66 (jmax (0 : Int32) (fX6_last b2)) (g18.1 62 4) g18)) (okX11_put 66 rfl (jmax (0 : Int32) (fX6_last b2)) (g18.1 62 4) g18) (fun _ => rfl) mlX2_52 mtX11_put rfl (Nat.le_of_ble_eq_true rfl) rfl (Nat.le_of_ble_eq_true rfl) dX2_collectSets_144 ?_
    refine sim_nmH (fun g19 => ?_)
    exact sim_vret rfl rfl dX2_collectSets_147
theorem okX2_collectSets (h : AH) (b : AH) (e : fX2_collectSets h = some b) : Ok yX2_collectSets cX2_collectSets 6 none 6 [.ref 62, .ref 3] h (none, b) := ok_of (sX2_collectSets h) (by rw [e]; rfl) (by decide +kernel) (Nat.le_of_ble_eq_true rfl)
def fX2_hasOpenSet_l3b (rec : Int32 → Option Int32) (x2 : Int32) (x3 : Int32) (x4 : Int32) (h : AH) (x5 : Int32) : Option Int32 :=
  if x5 < x2 then
    letT (fX11_at 65 x5 h) (fun v2 =>
    if (v2 &&& x4) = 0 then
      rec (x5 + 1)
    else
      if (v2 &&& x3) = 0 then
        some (1 : Int32)
      else
        rec (x5 + 1))
  else
    some (0 : Int32)
def fX2_hasOpenSet_l3 (x2 : Int32) (x3 : Int32) (x4 : Int32) (h : AH) : Nat → Int32 → Option Int32
  | 0, _ => none
  | n + 1, x5 => fX2_hasOpenSet_l3b (fX2_hasOpenSet_l3 x2 x3 x4 h n) x2 x3 x4 h x5
theorem sX2_hasOpenSet_l3b {rec : Int32 → Option Int32} {x2 : Int32} {x3 : Int32} {x4 : Int32} {h : AH} (hR : ∀ (x5 : Int32), Sim RX2 cX2_hasOpenSet 7 (some .boolean) 2 (Option.map (pI h)) (rec x5) 3 [(0, .ref 62), (2, .int x2), (3, .int x3), (4, .int x4), (5, .int x5)] [] h) : ∀ (x5 : Int32), Sim RX2 cX2_hasOpenSet 7 (some .boolean) 2 (Option.map (pI h)) (fX2_hasOpenSet_l3b rec x2 x3 x4 h x5) 3 [(0, .ref 62), (2, .int x2), (3, .int x3), (4, .int x4), (5, .int x5)] [] h := by
  intro x5
  unfold fX2_hasOpenSet_l3b
  refine sim_iload 4 rfl dX2_hasOpenSet_3 ?_
  refine sim_iload_n 1 rfl dX2_hasOpenSet_5 ?_
  refine sim_icmp_ge (tgt := 43) dX2_hasOpenSet_6 (by decide) (fun c1 => ?_) (fun c1 => ?_)
  · refine sim_iconst (v := 0) (by decide) dX2_hasOpenSet_43 ?_
    exact sim_zret rfl rfl rfl dX2_hasOpenSet_44
  · refine sim_aload_n 0 rfl dX2_hasOpenSet_9 ?_
    refine sim_getR flX2_18 rfl rfl dX2_hasOpenSet_10 ?_
    refine sim_iload 4 rfl dX2_hasOpenSet_13 ?_
    refine sim_cS (As := [.ref 65, .int x5]) (st := []) (r := (some (.int (fX11_at 65 x5 h)))) (h1 := h) (okX11_at 65 rfl x5 h) (fun _ => rfl) mlX2_75 mtX11_at rfl (Nat.le_of_ble_eq_true rfl) rfl (Nat.le_of_ble_eq_true rfl) dX2_hasOpenSet_15 ?_
    refine sim_nmI (fun v2 => ?_)
    refine sim_istore (L' := [(6, .int v2), (0, .ref 62), (2, .int x2), (3, .int x3), (4, .int x4), (5, .int x5)]) rfl (by decide) dX2_hasOpenSet_18 ?_
    refine sim_iload 0 rfl dX2_hasOpenSet_20 ?_
    refine sim_iload 4 rfl dX2_hasOpenSet_22 ?_
    refine sim_iand dX2_hasOpenSet_24 ?_
    refine sim_if_eq (tgt := 37) dX2_hasOpenSet_25 (by decide) (fun c3 => ?_) (fun c3 => ?_)
    · refine sim_iinc (v := x5 + 1) (L' := [(5, .int (x5 + 1)), (6, .int v2), (0, .ref 62), (2, .int x2), (3, .int x3), (4, .int x4)]) 5 rfl rfl rfl (by decide) dX2_hasOpenSet_37 ?_
      refine sim_goto (tgt := 3) dX2_hasOpenSet_40 (by decide) ?_
      refine sim_sub [2, 3, 4, 5, 0] rfl ?_
      exact hR (x5 + 1)
    · refine sim_iload 0 rfl dX2_hasOpenSet_28 ?_
      refine sim_iload_n 3 rfl dX2_hasOpenSet_30 ?_
      refine sim_iand dX2_hasOpenSet_31 ?_
      refine sim_if_ne (tgt := 37) dX2_hasOpenSet_32 (by decide) (fun c4 => ?_) (fun c4 => ?_)
      · refine sim_iinc (v := x5 + 1) (L' := [(5, .int (x5 + 1)), (6, .int v2), (0, .ref 62), (2, .int x2), (3, .int x3), (4, .int x4)]) 5 rfl rfl rfl (by decide) dX2_hasOpenSet_37 ?_
        refine sim_goto (tgt := 3) dX2_hasOpenSet_40 (by decide) ?_
        refine sim_sub [2, 3, 4, 5, 0] rfl ?_
        exact hR (x5 + 1)
      · refine sim_iconst (v := 1) (by decide) dX2_hasOpenSet_35 ?_
        exact sim_zret rfl rfl rfl dX2_hasOpenSet_36
theorem sX2_hasOpenSet_l3 {x2 : Int32} {x3 : Int32} {x4 : Int32} {h : AH} : ∀ (n : Nat) (x5 : Int32), Sim RX2 cX2_hasOpenSet 7 (some .boolean) 2 (Option.map (pI h)) (fX2_hasOpenSet_l3 x2 x3 x4 h n x5) 3 [(0, .ref 62), (2, .int x2), (3, .int x3), (4, .int x4), (5, .int x5)] [] h := by
  intro n
  induction n with
  | zero => intro x5; exact sim_none
  | succ n ih => intro x5; exact sX2_hasOpenSet_l3b ih x5
def fX2_hasOpenSet (p1 : Int32) (p2 : Int32) (p3 : Int32) (p4 : Int32) (h : AH) : Option Int32 :=
  fX2_hasOpenSet_l3 p2 p3 p4 h fuel0 p1
theorem sX2_hasOpenSet (p1 : Int32) (p2 : Int32) (p3 : Int32) (p4 : Int32) (h : AH) : Sim RX2 cX2_hasOpenSet 7 (some .boolean) 2 (Option.map (pI h)) (fX2_hasOpenSet p1 p2 p3 p4 h) 0 [(0, .ref 62), (1, .int p1), (2, .int p2), (3, .int p3), (4, .int p4)] [] h := by
  unfold fX2_hasOpenSet
  refine sim_iload_n 1 rfl dX2_hasOpenSet_0 ?_
  refine sim_istore (L' := [(5, .int p1), (0, .ref 62), (1, .int p1), (2, .int p2), (3, .int p3), (4, .int p4)]) rfl (by decide) dX2_hasOpenSet_1 ?_
  refine sim_sub [1, 3, 4, 5, 0] rfl ?_
  refine sX2_hasOpenSet_l3 _ p1
theorem okX2_hasOpenSet (p1 : Int32) (p2 : Int32) (p3 : Int32) (p4 : Int32) (h : AH) (b : Int32) (e : fX2_hasOpenSet p1 p2 p3 p4 h = some b) : Ok yX2_hasOpenSet cX2_hasOpenSet 7 (some .boolean) 2 [.ref 62, .int p1, .int p2, .int p3, .int p4] h (some (.int b), h) := ok_of (sX2_hasOpenSet p1 p2 p3 p4 h) (by rw [e]; rfl) (by decide +kernel) (Nat.le_of_ble_eq_true rfl)
def fX2_choose (rc : Int32 → Int32 → Int32 → AH → Option Int32) (p1 : Int32) (p2 : Int32) (p3 : Int32) (h : AH) : Option Int32 :=
  if p1 < 0 then
    some p2
  else
    if p1 < (20 : Int32) then
      (fX2_hasOpenSet (fX11_at 66 p1 h) (fX11_at 66 (p1 + (1 : Int32)) h) p2 (fX11_bit p1 h) h).bind (fun b3 =>
      letT (fun (w5 : Int32) =>
        letT (fun (w7 : Int32) =>
          if w5 < 0 then
            if 0 < p3 then
              if w7 = 0 then
                some w5
              else
                (rc (p1 - (1 : Int32)) (p2 ||| (fX11_bit p1 h)) (p3 - (1 : Int32)) h).bind (fun b12 =>
                some b12)
            else
              some w5
          else
            some w5) (fun J8 =>
        letT (J8 (1 : Int32)) (fun J14 =>
        if b3 = 0 then
          (fX2_hasOpenSet (0 : Int32) (fX11_at 66 p1 h) p2 (fX11_bit p1 h) h).bind (fun b16 =>
          if b16 = 0 then
            J8 (0 : Int32)
          else
            J14)
        else
          J14))) (fun J6 =>
      if b3 = 0 then
        (rc (p1 - (1 : Int32)) p2 p3 h).bind (fun b20 =>
        J6 b20)
      else
        J6 (-1 : Int32)))
    else
      some p2
theorem sX2_choose (d : Nat) (rc : Int32 → Int32 → Int32 → AH → Option Int32) (hrc : ∀ (p1 p2 p3 : Int32) (h : AH) (b : Int32), rc p1 p2 p3 h = some b → Ok yX2_choose cX2_choose 7 (some .int) (6 + d) [.ref 62, .int p1, .int p2, .int p3] h (some (.int b), h)) (p1 : Int32) (p2 : Int32) (p3 : Int32) (h : AH) : Sim RX2 cX2_choose 7 (some .int) (7 + d) (Option.map (pI h)) (fX2_choose rc p1 p2 p3 h) 0 [(0, .ref 62), (1, .int p1), (2, .int p2), (3, .int p3)] [] h := by
  unfold fX2_choose
  refine sim_iload_n 1 rfl dX2_choose_0 ?_
  refine sim_if_lt (tgt := 10) dX2_choose_1 (by decide) (fun c1 => ?_) (fun c1 => ?_)
  · refine sim_iload_n 2 rfl dX2_choose_10 ?_
    exact sim_iret rfl rfl dX2_choose_11
  · refine sim_iload_n 1 rfl dX2_choose_4 ?_
    refine sim_bipush (v := 20) (by decide) dX2_choose_5 ?_
    refine sim_icmp_lt (tgt := 12) dX2_choose_7 (by decide) (fun c2 => ?_) (fun c2 => ?_)
    · refine sim_aload_n 0 rfl dX2_choose_12 ?_
      refine sim_aload_n 0 rfl dX2_choose_13 ?_
      refine sim_getR flX2_21 rfl rfl dX2_choose_14 ?_
      refine sim_iload_n 1 rfl dX2_choose_17 ?_
      refine sim_cS (As := [.ref 66, .int p1]) (st := [.ref 62]) (r := (some (.int (fX11_at 66 p1 h)))) (h1 := h) (okX11_at 66 rfl p1 h) (fun _ => rfl) mlX2_75 mtX11_at rfl (by omega) rfl (Nat.le_of_ble_eq_true rfl) dX2_choose_18 ?_
      refine sim_aload_n 0 rfl dX2_choose_21 ?_
      refine sim_getR flX2_21 rfl rfl dX2_choose_22 ?_
      refine sim_iload_n 1 rfl dX2_choose_25 ?_
      refine sim_iconst (v := 1) (by decide) dX2_choose_26 ?_
      refine sim_iadd dX2_choose_27 ?_
      refine sim_cS (As := [.ref 66, .int (p1 + (1 : Int32))]) (st := [.int (fX11_at 66 p1 h), .ref 62]) (r := (some (.int (fX11_at 66 (p1 + (1 : Int32)) h)))) (h1 := h) (okX11_at 66 rfl (p1 + (1 : Int32)) h) (fun _ => rfl) mlX2_75 mtX11_at rfl (by omega) rfl (Nat.le_of_ble_eq_true rfl) dX2_choose_28 ?_
      refine sim_iload_n 2 rfl dX2_choose_31 ?_
      refine sim_iload_n 1 rfl dX2_choose_32 ?_
      refine sim_cS (As := [.int p1]) (st := [.int p2, .int (fX11_at 66 (p1 + (1 : Int32)) h), .int (fX11_at 66 p1 h), .ref 62]) (r := (some (.int (fX11_bit p1 h)))) (h1 := h) (okX11_bit p1 h) (fun _ => rfl) mlX2_89 mtX11_bit rfl (by omega) rfl (Nat.le_of_ble_eq_true rfl) dX2_choose_33 ?_
      refine sim_bind (fun b3 e4 => ?_)
      refine sim_cV (As := [.int (fX11_at 66 p1 h), .int (fX11_at 66 (p1 + (1 : Int32)) h), .int p2, .int (fX11_bit p1 h)]) (st := []) (r := (some (.int b3))) (h1 := h) (okX2_hasOpenSet (fX11_at 66 p1 h) (fX11_at 66 (p1 + (1 : Int32)) h) p2 (fX11_bit p1 h) h b3 e4) (fun _ => rfl) mlX2_93 mtX2_hasOpenSet rfl rfl rfl rfl (by omega) rfl (Nat.le_of_ble_eq_true rfl) dX2_choose_36 ?_
      refine sim_istore (L' := [(4, .int b3), (0, .ref 62), (1, .int p1), (2, .int p2), (3, .int p3)]) rfl (by decide) dX2_choose_39 ?_
      refine sim_iload 0 rfl dX2_choose_41 ?_
      refine sim_letJ (fun J6 => ∀ (w5 : Int32), Sim RX2 cX2_choose 7 (some .int) (7 + d) (Option.map (pI h)) (J6 w5) 59 [(0, .ref 62), (1, .int p1), (2, .int p2), (3, .int p3), (4, .int b3)] [.int w5] h) (fun w5 => ?_) (fun J6 hJ6 => ?_)
      · refine sim_istore (L' := [(5, .int w5), (0, .ref 62), (1, .int p1), (2, .int p2), (3, .int p3), (4, .int b3)]) rfl (by decide) dX2_choose_59 ?_
        refine sim_iload 5 rfl dX2_choose_61 ?_
        refine sim_letJ (fun J8 => ∀ (w7 : Int32), Sim RX2 cX2_choose 7 (some .int) (7 + d) (Option.map (pI h)) (J8 w7) 92 [(0, .ref 62), (1, .int p1), (2, .int p2), (3, .int p3), (5, .int w5)] [.int w7] h) (fun w7 => ?_) (fun J8 hJ8 => ?_)
        · refine sim_istore (L' := [(6, .int w7), (0, .ref 62), (1, .int p1), (2, .int p2), (3, .int p3), (5, .int w5)]) rfl (by decide) dX2_choose_92 ?_
          refine sim_iload 5 rfl dX2_choose_94 ?_
          refine sim_if_ge (tgt := 126) dX2_choose_96 (by decide) (fun c9 => ?_) (fun c9 => ?_)
          · refine sim_iload 5 rfl dX2_choose_126 ?_
            exact sim_iret rfl rfl dX2_choose_128
          · refine sim_iload_n 4 rfl dX2_choose_99 ?_
            refine sim_if_le (tgt := 126) dX2_choose_100 (by decide) (fun c10 => ?_) (fun c10 => ?_)
            · refine sim_iload 5 rfl dX2_choose_126 ?_
              exact sim_iret rfl rfl dX2_choose_128
            · refine sim_iload 0 rfl dX2_choose_103 ?_
              refine sim_if_eq (tgt := 126) dX2_choose_105 (by decide) (fun c11 => ?_) (fun c11 => ?_)
              · refine sim_iload 5 rfl dX2_choose_126 ?_
                exact sim_iret rfl rfl dX2_choose_128
              · refine sim_aload_n 1 rfl dX2_choose_108 ?_
                refine sim_iload_n 2 rfl dX2_choose_109 ?_
                refine sim_iconst (v := 1) (by decide) dX2_choose_110 ?_
                refine sim_isub dX2_choose_111 ?_
                refine sim_iload_n 3 rfl dX2_choose_112 ?_
                refine sim_iload_n 2 rfl dX2_choose_113 ?_
                refine sim_cS (As := [.int p1]) (st := [.int p2, .int (p1 - (1 : Int32)), .ref 62]) (r := (some (.int (fX11_bit p1 h)))) (h1 := h) (okX11_bit p1 h) (fun _ => rfl) mlX2_89 mtX11_bit rfl (by omega) rfl (Nat.le_of_ble_eq_true rfl) dX2_choose_114 ?_
                refine sim_ior dX2_choose_117 ?_
                refine sim_iload_n 4 rfl dX2_choose_118 ?_
                refine sim_iconst (v := 1) (by decide) dX2_choose_119 ?_
                refine sim_isub dX2_choose_120 ?_
                refine sim_bind (fun b12 e13 => ?_)
                refine sim_cV (As := [.int (p1 - (1 : Int32)), .int (p2 ||| (fX11_bit p1 h)), .int (p3 - (1 : Int32))]) (st := []) (r := (some (.int b12))) (h1 := h) (hrc (p1 - (1 : Int32)) (p2 ||| (fX11_bit p1 h)) (p3 - (1 : Int32)) h b12 e13) (fun _ => rfl) mlX2_44 mtX2_choose rfl rfl rfl rfl (by omega) rfl (Nat.le_of_ble_eq_true rfl) dX2_choose_121 ?_
                refine sim_istore (L' := [(5, .int b12), (6, .int w7), (0, .ref 62), (1, .int p1), (2, .int p2), (3, .int p3)]) rfl (by decide) dX2_choose_124 ?_
                refine sim_iload 0 rfl dX2_choose_126 ?_
                exact sim_iret rfl rfl dX2_choose_128
        refine sim_letJ (fun J14 => Sim RX2 cX2_choose 7 (some .int) (7 + d) (Option.map (pI h)) (J14) 87 [(0, .ref 62), (1, .int p1), (2, .int p2), (3, .int p3), (5, .int w5)] [] h) (?_) (fun J14 hJ14 => ?_)
        · refine sim_iconst (v := 1) (by decide) dX2_choose_87 ?_
          refine sim_goto (tgt := 92) dX2_choose_88 (by decide) ?_
          exact hJ8 (1 : Int32)
        refine sim_if_ne (tgt := 87) dX2_choose_63 (by decide) (fun c15 => ?_) (fun c15 => ?_)
        · refine sim_sub [1, 2, 3, 4, 0] rfl ?_
          exact hJ14
        · refine sim_aload_n 1 rfl dX2_choose_66 ?_
          refine sim_iconst (v := 0) (by decide) dX2_choose_67 ?_
          refine sim_aload_n 1 rfl dX2_choose_68 ?_
          refine sim_getR flX2_21 rfl rfl dX2_choose_69 ?_
          refine sim_iload_n 2 rfl dX2_choose_72 ?_
          refine sim_cS (As := [.ref 66, .int p1]) (st := [.int (0 : Int32), .ref 62]) (r := (some (.int (fX11_at 66 p1 h)))) (h1 := h) (okX11_at 66 rfl p1 h) (fun _ => rfl) mlX2_75 mtX11_at rfl (by omega) rfl (Nat.le_of_ble_eq_true rfl) dX2_choose_73 ?_
          refine sim_iload_n 3 rfl dX2_choose_76 ?_
          refine sim_iload_n 2 rfl dX2_choose_77 ?_
          refine sim_cS (As := [.int p1]) (st := [.int p2, .int (fX11_at 66 p1 h), .int (0 : Int32), .ref 62]) (r := (some (.int (fX11_bit p1 h)))) (h1 := h) (okX11_bit p1 h) (fun _ => rfl) mlX2_89 mtX11_bit rfl (by omega) rfl (Nat.le_of_ble_eq_true rfl) dX2_choose_78 ?_
          refine sim_bind (fun b16 e17 => ?_)
          refine sim_cV (As := [.int (0 : Int32), .int (fX11_at 66 p1 h), .int p2, .int (fX11_bit p1 h)]) (st := []) (r := (some (.int b16))) (h1 := h) (okX2_hasOpenSet (0 : Int32) (fX11_at 66 p1 h) p2 (fX11_bit p1 h) h b16 e17) (fun _ => rfl) mlX2_93 mtX2_hasOpenSet rfl rfl rfl rfl (by omega) rfl (Nat.le_of_ble_eq_true rfl) dX2_choose_81 ?_
          refine sim_if_eq (tgt := 91) dX2_choose_84 (by decide) (fun c18 => ?_) (fun c18 => ?_)
          · refine sim_iconst (v := 0) (by decide) dX2_choose_91 ?_
            refine sim_sub [1, 2, 3, 4, 0] rfl ?_
            exact hJ8 (0 : Int32)
          · refine sim_sub [1, 2, 3, 4, 0] rfl ?_
            exact hJ14
      refine sim_if_eq (tgt := 50) dX2_choose_43 (by decide) (fun c19 => ?_) (fun c19 => ?_)
      · refine sim_aload_n 1 rfl dX2_choose_50 ?_
        refine sim_iload_n 2 rfl dX2_choose_51 ?_
        refine sim_iconst (v := 1) (by decide) dX2_choose_52 ?_
        refine sim_isub dX2_choose_53 ?_
        refine sim_iload_n 3 rfl dX2_choose_54 ?_
        refine sim_iload_n 4 rfl dX2_choose_55 ?_
        refine sim_bind (fun b20 e21 => ?_)
        refine sim_cV (As := [.int (p1 - (1 : Int32)), .int p2, .int p3]) (st := []) (r := (some (.int b20))) (h1 := h) (hrc (p1 - (1 : Int32)) p2 p3 h b20 e21) (fun _ => rfl) mlX2_44 mtX2_choose rfl rfl rfl rfl (by omega) rfl (Nat.le_of_ble_eq_true rfl) dX2_choose_56 ?_
        refine sim_sub [1, 2, 3, 4, 0] rfl ?_
        exact hJ6 b20
      · refine sim_iconst (v := -1) (by decide) dX2_choose_46 ?_
        refine sim_goto (tgt := 59) dX2_choose_47 (by decide) ?_
        refine sim_sub [1, 2, 3, 4, 0] rfl ?_
        exact hJ6 (-1 : Int32)
    · refine sim_iload_n 2 rfl dX2_choose_10 ?_
      exact sim_iret rfl rfl dX2_choose_11
theorem okX2_choose (d : Nat) (rc : Int32 → Int32 → Int32 → AH → Option Int32) (hrc : ∀ (p1 p2 p3 : Int32) (h : AH) (b : Int32), rc p1 p2 p3 h = some b → Ok yX2_choose cX2_choose 7 (some .int) (6 + d) [.ref 62, .int p1, .int p2, .int p3] h (some (.int b), h)) (p1 : Int32) (p2 : Int32) (p3 : Int32) (h : AH) (b : Int32) (e : fX2_choose rc p1 p2 p3 h = some b) : Ok yX2_choose cX2_choose 7 (some .int) (7 + d) [.ref 62, .int p1, .int p2, .int p3] h (some (.int b), h) := ok_of (sX2_choose d rc hrc p1 p2 p3 h) (by rw [e]; rfl) (by decide +kernel) (Nat.le_of_ble_eq_true rfl)
def fX2_chooseD : Nat → Int32 → Int32 → Int32 → AH → Option Int32
  | 0, _, _, _, _ => none
  | d + 1, p1, p2, p3, h => fX2_choose (fX2_chooseD d) p1 p2 p3 h
theorem okX2_chooseD : ∀ (d : Nat) (p1 p2 p3 : Int32) (h : AH) (b : Int32), fX2_chooseD d p1 p2 p3 h = some b → Ok yX2_choose cX2_choose 7 (some .int) (6 + d) [.ref 62, .int p1, .int p2, .int p3] h (some (.int b), h) := by
  intro d
  induction d with
  | zero => intro p1 p2 p3 h b e; cases e
  | succ d ih =>
    intro p1 p2 p3 h b e
    have := okX2_choose d (fX2_chooseD d) ih p1 p2 p3 h b e
    have e2 : 6 + (d + 1) = 7 + d := by omega
    rw [e2]
    exact this
def fX2_leastLines_l18b (rec : Int32 → Int32 → Option (Int32 × AH)) (x2 : Int32) (h : AH) (x3 : Int32) (x4 : Int32) : Option (Int32 × AH) :=
  if x2 < x4 then
    some (x3, h)
  else
    if x3 < 0 then
      (fX2_chooseD 22 (x2 - (1 : Int32)) (0 : Int32) x4 h).bind (fun b5 =>
      rec b5 (x4 + 1))
    else
      some (x3, h)
def fX2_leastLines_l18 (x2 : Int32) (h : AH) : Nat → Int32 → Int32 → Option (Int32 × AH)
  | 0, _, _ => none
  | n + 1, x3, x4 => fX2_leastLines_l18b (fX2_leastLines_l18 x2 h n) x2 h x3 x4
theorem sX2_leastLines_l18b {rec : Int32 → Int32 → Option (Int32 × AH)} {x2 : Int32} {h : AH} (hR : ∀ (x3 : Int32) (x4 : Int32), Sim RX2 cX2_leastLines 5 (some .int) 29 (Option.map oI) (rec x3 x4) 18 [(0, .ref 62), (2, .int x2), (3, .int x3), (4, .int x4)] [] h) : ∀ (x3 : Int32) (x4 : Int32), Sim RX2 cX2_leastLines 5 (some .int) 29 (Option.map oI) (fX2_leastLines_l18b rec x2 h x3 x4) 18 [(0, .ref 62), (2, .int x2), (3, .int x3), (4, .int x4)] [] h := by
  intro x3 x4
  unfold fX2_leastLines_l18b
  refine sim_iload 3 rfl dX2_leastLines_18 ?_
  refine sim_iload_n 1 rfl dX2_leastLines_20 ?_
  refine sim_icmp_gt (tgt := 45) dX2_leastLines_21 (by decide) (fun c3 => ?_) (fun c3 => ?_)
  · refine sim_iload_n 2 rfl dX2_leastLines_45 ?_
    exact sim_iret rfl rfl dX2_leastLines_46
  · refine sim_iload_n 2 rfl dX2_leastLines_24 ?_
    refine sim_if_ge (tgt := 45) dX2_leastLines_25 (by decide) (fun c4 => ?_) (fun c4 => ?_)
    · refine sim_iload_n 2 rfl dX2_leastLines_45 ?_
      exact sim_iret rfl rfl dX2_leastLines_46
    · refine sim_aload_n 0 rfl dX2_leastLines_28 ?_
      refine sim_iload_n 1 rfl dX2_leastLines_29 ?_
      refine sim_iconst (v := 1) (by decide) dX2_leastLines_30 ?_
      refine sim_isub dX2_leastLines_31 ?_
      refine sim_iconst (v := 0) (by decide) dX2_leastLines_32 ?_
      refine sim_iload 3 rfl dX2_leastLines_33 ?_
      refine sim_bind (fun b5 e6 => ?_)
      refine sim_cV (As := [.int (x2 - (1 : Int32)), .int (0 : Int32), .int x4]) (st := []) (r := (some (.int b5))) (h1 := h) (okX2_chooseD 22 (x2 - (1 : Int32)) (0 : Int32) x4 h b5 e6) (fun _ => rfl) mlX2_44 mtX2_choose rfl rfl rfl rfl (Nat.le_of_ble_eq_true rfl) rfl (Nat.le_of_ble_eq_true rfl) dX2_leastLines_35 ?_
      refine sim_istore_n (L' := [(3, .int b5), (0, .ref 62), (2, .int x2), (4, .int x4)]) rfl (by decide) dX2_leastLines_38 ?_
      refine sim_iinc (v := x4 + 1) (L' := [(4, .int (x4 + 1)), (3, .int b5), (0, .ref 62), (2, .int x2)]) 3 rfl rfl rfl (by decide) dX2_leastLines_39 ?_
      refine sim_goto (tgt := 18) dX2_leastLines_42 (by decide) ?_
      refine sim_sub [2, 3, 1, 0] rfl ?_
      exact hR b5 (x4 + 1)
theorem sX2_leastLines_l18 {x2 : Int32} {h : AH} : ∀ (n : Nat) (x3 : Int32) (x4 : Int32), Sim RX2 cX2_leastLines 5 (some .int) 29 (Option.map oI) (fX2_leastLines_l18 x2 h n x3 x4) 18 [(0, .ref 62), (2, .int x2), (3, .int x3), (4, .int x4)] [] h := by
  intro n
  induction n with
  | zero => intro x3 x4; exact sim_none
  | succ n ih => intro x3 x4; exact sX2_leastLines_l18b ih x3 x4
def fX2_leastLines (h : AH) : Option (Int32 × AH) :=
  (fX2_collectSets h).bind (fun b1 =>
  fX2_leastLines_l18 (fX6_last b1) b1 fuel0 (-1 : Int32) (0 : Int32))
theorem sX2_leastLines (h : AH) : Sim RX2 cX2_leastLines 5 (some .int) 29 (Option.map oI) (fX2_leastLines h) 0 [(0, .ref 62), (1, .ref 3)] [] h := by
  unfold fX2_leastLines
  refine sim_aload_n 0 rfl dX2_leastLines_0 ?_
  refine sim_aload_n 1 rfl dX2_leastLines_1 ?_
  refine sim_bind (fun b1 e2 => ?_)
  refine sim_cV (As := [.ref 3]) (st := []) (r := none) (h1 := b1) (okX2_collectSets h b1 e2) (fun _ => rfl) mlX2_28 mtX2_collectSets rfl rfl rfl rfl (Nat.le_of_ble_eq_true rfl) rfl (Nat.le_of_ble_eq_true rfl) dX2_leastLines_2 ?_
  refine sim_aload_n 1 rfl dX2_leastLines_5 ?_
  refine sim_getR flX2_32 rfl rfl dX2_leastLines_6 ?_
  refine sim_cV (As := []) (st := []) (r := (some (.int (fX6_last b1)))) (h1 := b1) (okX6_last b1) (fun _ => rfl) mlX2_38 mtX6_last rfl rfl rfl rfl (Nat.le_of_ble_eq_true rfl) rfl (Nat.le_of_ble_eq_true rfl) dX2_leastLines_9 ?_
  refine sim_istore_n (L' := [(2, .int (fX6_last b1)), (0, .ref 62), (1, .ref 3)]) rfl (by decide) dX2_leastLines_12 ?_
  refine sim_iconst (v := -1) (by decide) dX2_leastLines_13 ?_
  refine sim_istore_n (L' := [(3, .int (-1 : Int32)), (2, .int (fX6_last b1)), (0, .ref 62), (1, .ref 3)]) rfl (by decide) dX2_leastLines_14 ?_
  refine sim_iconst (v := 0) (by decide) dX2_leastLines_15 ?_
  refine sim_istore (L' := [(4, .int (0 : Int32)), (3, .int (-1 : Int32)), (2, .int (fX6_last b1)), (0, .ref 62), (1, .ref 3)]) rfl (by decide) dX2_leastLines_16 ?_
  refine sim_sub [3, 2, 1, 0] rfl ?_
  refine sX2_leastLines_l18 _ (-1 : Int32) (0 : Int32)
theorem okX2_leastLines (h : AH) (b : Int32 × AH) (e : fX2_leastLines h = some b) : Ok yX2_leastLines cX2_leastLines 5 (some .int) 29 [.ref 62, .ref 3] h (some (.int b.1), b.2) := ok_of (sX2_leastLines h) (by rw [e]; rfl) (by decide +kernel) (Nat.le_of_ble_eq_true rfl)
def fX11_added (p1 : Int32) (h : AH) : Option (Int32 × AH) :=
  if p1 < 0 then
    some ((-1 : Int32), h)
  else
    if (1 : Int32) < p1 then
      some ((-1 : Int32), h)
    else
      if (h.1 6 0) = 0 then
        some ((-1 : Int32), h)
      else
        (fX2_leastLines h).bind (fun b4 =>
        if p1 = 0 then
          some (fJ6_bitCount_0f7a4 b4.1 b4.2, b4.2)
        else
          some (b4.1, b4.2))
theorem sX11_added (p1 : Int32) (h : AH) : Sim RX11 cX11_added 3 (some .int) 30 (Option.map oI) (fX11_added p1 h) 0 [(0, .ref 0), (1, .int p1)] [] h := by
  unfold fX11_added
  refine sim_iload_n 1 rfl dX11_added_0 ?_
  refine sim_if_lt (tgt := 22) dX11_added_1 (by decide) (fun c1 => ?_) (fun c1 => ?_)
  · refine sim_iconst (v := -1) (by decide) dX11_added_22 ?_
    exact sim_iret rfl rfl dX11_added_23
  · refine sim_iload_n 1 rfl dX11_added_4 ?_
    refine sim_iconst (v := 1) (by decide) dX11_added_5 ?_
    refine sim_icmp_gt (tgt := 22) dX11_added_6 (by decide) (fun c2 => ?_) (fun c2 => ?_)
    · refine sim_iconst (v := -1) (by decide) dX11_added_22 ?_
      exact sim_iret rfl rfl dX11_added_23
    · refine sim_aload_n 0 rfl dX11_added_9 ?_
      refine sim_getR flX11_19 rfl rfl dX11_added_10 ?_
      refine sim_getR flX11_133 rfl rfl dX11_added_13 ?_
      refine sim_getI flX11_198 rfl rfl dX11_added_16 ?_
      refine sim_if_ne (tgt := 24) dX11_added_19 (by decide) (fun c3 => ?_) (fun c3 => ?_)
      · refine sim_aload_n 0 rfl dX11_added_24 ?_
        refine sim_getR flX11_83 rfl rfl dX11_added_25 ?_
        refine sim_aload_n 0 rfl dX11_added_28 ?_
        refine sim_getR flX11_19 rfl rfl dX11_added_29 ?_
        refine sim_bind (fun b4 e5 => ?_)
        refine sim_cV (As := [.ref 3]) (st := []) (r := (some (.int b4.1))) (h1 := b4.2) (okX2_leastLines h b4 e5) (fun _ => rfl) mlX11_276 mtX2_leastLines rfl rfl rfl rfl (Nat.le_of_ble_eq_true rfl) rfl (Nat.le_of_ble_eq_true rfl) dX11_added_32 ?_
        refine sim_istore_n (L' := [(2, .int b4.1), (0, .ref 0), (1, .int p1)]) rfl (by decide) dX11_added_35 ?_
        refine sim_iload_n 2 rfl dX11_added_36 ?_
        refine sim_if_ne (tgt := 47) dX11_added_37 (by decide) (fun c6 => ?_) (fun c6 => ?_)
        · refine sim_iload_n 0 rfl dX11_added_47 ?_
          exact sim_iret rfl rfl dX11_added_48
        · refine sim_iload_n 0 rfl dX11_added_40 ?_
          refine sim_cS (As := [.int b4.1]) (st := []) (r := (some (.int (fJ6_bitCount_0f7a4 b4.1 b4.2)))) (h1 := b4.2) (okJ6_bitCount_0f7a4 b4.1 b4.2) (fun _ => rfl) mlX11_214 mtJ6_bitCount_0f7a4 rfl (Nat.le_of_ble_eq_true rfl) rfl (Nat.le_of_ble_eq_true rfl) dX11_added_41 ?_
          refine sim_goto (tgt := 48) dX11_added_44 (by decide) ?_
          exact sim_iret rfl rfl dX11_added_48
      · refine sim_iconst (v := -1) (by decide) dX11_added_22 ?_
        exact sim_iret rfl rfl dX11_added_23
theorem okX11_added (p1 : Int32) (h : AH) (b : Int32 × AH) (e : fX11_added p1 h = some b) : Ok yX11_added cX11_added 3 (some .int) 30 [.ref 0, .int p1] h (some (.int b.1), b.2) := ok_of (sX11_added p1 h) (by rw [e]; rfl) (by decide +kernel) (Nat.le_of_ble_eq_true rfl)
def fX8_isToWait_l3b (rec : Int32 → Option Int32) (x1 : Int32) (x2 : Int32) (x3 : Int32) (h : AH) (x4 : Int32) : Option Int32 :=
  if x4 < x3 then
    if (fX11_isIn x2 x4 h) = 0 then
      rec (x4 + 1)
    else
      if ((fX11_at 68 x4 h) * (fX11_at 69 x1 h)) < ((fX11_at 68 x1 h) * (fX11_at 69 x4 h)) then
        some (1 : Int32)
      else
        rec (x4 + 1)
  else
    some (0 : Int32)
def fX8_isToWait_l3 (x1 : Int32) (x2 : Int32) (x3 : Int32) (h : AH) : Nat → Int32 → Option Int32
  | 0, _ => none
  | n + 1, x4 => fX8_isToWait_l3b (fX8_isToWait_l3 x1 x2 x3 h n) x1 x2 x3 h x4
theorem sX8_isToWait_l3b {rec : Int32 → Option Int32} {x1 : Int32} {x2 : Int32} {x3 : Int32} {h : AH} (hR : ∀ (x4 : Int32), Sim RX8 cX8_isToWait 5 (some .boolean) 2 (Option.map (pI h)) (rec x4) 3 [(0, .ref 67), (1, .int x1), (2, .int x2), (3, .int x3), (4, .int x4)] [] h) : ∀ (x4 : Int32), Sim RX8 cX8_isToWait 5 (some .boolean) 2 (Option.map (pI h)) (fX8_isToWait_l3b rec x1 x2 x3 h x4) 3 [(0, .ref 67), (1, .int x1), (2, .int x2), (3, .int x3), (4, .int x4)] [] h := by
  intro x4
  unfold fX8_isToWait_l3b
  refine sim_iload 4 rfl dX8_isToWait_3 ?_
  refine sim_iload_n 3 rfl dX8_isToWait_5 ?_
  refine sim_icmp_ge (tgt := 65) dX8_isToWait_6 (by decide) (fun c1 => ?_) (fun c1 => ?_)
  · refine sim_iconst (v := 0) (by decide) dX8_isToWait_65 ?_
    exact sim_zret rfl rfl rfl dX8_isToWait_66
  · refine sim_iload_n 2 rfl dX8_isToWait_9 ?_
    refine sim_iload 4 rfl dX8_isToWait_10 ?_
    refine sim_cS (As := [.int x2, .int x4]) (st := []) (r := (some (.int (fX11_isIn x2 x4 h)))) (h1 := h) (okX11_isIn x2 x4 h) (fun _ => rfl) mlX8_47 mtX11_isIn rfl (Nat.le_of_ble_eq_true rfl) rfl (Nat.le_of_ble_eq_true rfl) dX8_isToWait_12 ?_
    refine sim_if_eq (tgt := 59) dX8_isToWait_15 (by decide) (fun c2 => ?_) (fun c2 => ?_)
    · refine sim_iinc (v := x4 + 1) (L' := [(4, .int (x4 + 1)), (0, .ref 67), (1, .int x1), (2, .int x2), (3, .int x3)]) 4 rfl rfl rfl (by decide) dX8_isToWait_59 ?_
      refine sim_goto (tgt := 3) dX8_isToWait_62 (by decide) ?_
      refine sim_sub [1, 2, 3, 4, 0] rfl ?_
      exact hR (x4 + 1)
    · refine sim_aload_n 0 rfl dX8_isToWait_18 ?_
      refine sim_getR flX8_9 rfl rfl dX8_isToWait_19 ?_
      refine sim_iload 4 rfl dX8_isToWait_22 ?_
      refine sim_cS (As := [.ref 68, .int x4]) (st := []) (r := (some (.int (fX11_at 68 x4 h)))) (h1 := h) (okX11_at 68 rfl x4 h) (fun _ => rfl) mlX8_40 mtX11_at rfl (Nat.le_of_ble_eq_true rfl) rfl (Nat.le_of_ble_eq_true rfl) dX8_isToWait_24 ?_
      refine sim_aload_n 0 rfl dX8_isToWait_27 ?_
      refine sim_getR flX8_15 rfl rfl dX8_isToWait_28 ?_
      refine sim_iload_n 1 rfl dX8_isToWait_31 ?_
      refine sim_cS (As := [.ref 69, .int x1]) (st := [.int (fX11_at 68 x4 h)]) (r := (some (.int (fX11_at 69 x1 h)))) (h1 := h) (okX11_at 69 rfl x1 h) (fun _ => rfl) mlX8_40 mtX11_at rfl (Nat.le_of_ble_eq_true rfl) rfl (Nat.le_of_ble_eq_true rfl) dX8_isToWait_32 ?_
      refine sim_imul dX8_isToWait_35 ?_
      refine sim_aload_n 0 rfl dX8_isToWait_36 ?_
      refine sim_getR flX8_9 rfl rfl dX8_isToWait_37 ?_
      refine sim_iload_n 1 rfl dX8_isToWait_40 ?_
      refine sim_cS (As := [.ref 68, .int x1]) (st := [.int ((fX11_at 68 x4 h) * (fX11_at 69 x1 h))]) (r := (some (.int (fX11_at 68 x1 h)))) (h1 := h) (okX11_at 68 rfl x1 h) (fun _ => rfl) mlX8_40 mtX11_at rfl (Nat.le_of_ble_eq_true rfl) rfl (Nat.le_of_ble_eq_true rfl) dX8_isToWait_41 ?_
      refine sim_aload_n 0 rfl dX8_isToWait_44 ?_
      refine sim_getR flX8_15 rfl rfl dX8_isToWait_45 ?_
      refine sim_iload 4 rfl dX8_isToWait_48 ?_
      refine sim_cS (As := [.ref 69, .int x4]) (st := [.int (fX11_at 68 x1 h), .int ((fX11_at 68 x4 h) * (fX11_at 69 x1 h))]) (r := (some (.int (fX11_at 69 x4 h)))) (h1 := h) (okX11_at 69 rfl x4 h) (fun _ => rfl) mlX8_40 mtX11_at rfl (Nat.le_of_ble_eq_true rfl) rfl (Nat.le_of_ble_eq_true rfl) dX8_isToWait_50 ?_
      refine sim_imul dX8_isToWait_53 ?_
      refine sim_icmp_ge (tgt := 59) dX8_isToWait_54 (by decide) (fun c3 => ?_) (fun c3 => ?_)
      · refine sim_iinc (v := x4 + 1) (L' := [(4, .int (x4 + 1)), (0, .ref 67), (1, .int x1), (2, .int x2), (3, .int x3)]) 4 rfl rfl rfl (by decide) dX8_isToWait_59 ?_
        refine sim_goto (tgt := 3) dX8_isToWait_62 (by decide) ?_
        refine sim_sub [1, 2, 3, 4, 0] rfl ?_
        exact hR (x4 + 1)
      · refine sim_iconst (v := 1) (by decide) dX8_isToWait_57 ?_
        exact sim_zret rfl rfl rfl dX8_isToWait_58
theorem sX8_isToWait_l3 {x1 : Int32} {x2 : Int32} {x3 : Int32} {h : AH} : ∀ (n : Nat) (x4 : Int32), Sim RX8 cX8_isToWait 5 (some .boolean) 2 (Option.map (pI h)) (fX8_isToWait_l3 x1 x2 x3 h n x4) 3 [(0, .ref 67), (1, .int x1), (2, .int x2), (3, .int x3), (4, .int x4)] [] h := by
  intro n
  induction n with
  | zero => intro x4; exact sim_none
  | succ n ih => intro x4; exact sX8_isToWait_l3b ih x4
def fX8_isToWait (p1 : Int32) (p2 : Int32) (p3 : Int32) (h : AH) : Option Int32 :=
  fX8_isToWait_l3 p1 p2 p3 h fuel0 (0 : Int32)
theorem sX8_isToWait (p1 : Int32) (p2 : Int32) (p3 : Int32) (h : AH) : Sim RX8 cX8_isToWait 5 (some .boolean) 2 (Option.map (pI h)) (fX8_isToWait p1 p2 p3 h) 0 [(0, .ref 67), (1, .int p1), (2, .int p2), (3, .int p3)] [] h := by
  unfold fX8_isToWait
  refine sim_iconst (v := 0) (by decide) dX8_isToWait_0 ?_
  refine sim_istore (L' := [(4, .int (0 : Int32)), (0, .ref 67), (1, .int p1), (2, .int p2), (3, .int p3)]) rfl (by decide) dX8_isToWait_1 ?_
  refine sim_sub [1, 2, 3, 4, 0] rfl ?_
  refine sX8_isToWait_l3 _ (0 : Int32)
theorem okX8_isToWait (p1 : Int32) (p2 : Int32) (p3 : Int32) (h : AH) (b : Int32) (e : fX8_isToWait p1 p2 p3 h = some b) : Ok yX8_isToWait cX8_isToWait 5 (some .boolean) 2 [.ref 67, .int p1, .int p2, .int p3] h (some (.int b), h) := ok_of (sX8_isToWait p1 p2 p3 h) (by rw [e]; rfl) (by decide +kernel) (Nat.le_of_ble_eq_true rfl)
def fJ6_numberOfTrailingZeros_0f7a4 (p0 : Int32) (h : AH) : Int32 :=
  letT ((p0 ^^^ (-1 : Int32)) &&& (p0 - (1 : Int32))) (fun v1 =>
  if 0 < v1 then
    letT (fun (w3 : Int32) (w4 : Int32) =>
      letT (fun (w6 : Int32) (w7 : Int32) =>
        letT (fun (w9 : Int32) (w10 : Int32) =>
          if (4 : Int32) < w9 then
            letT (jushr w9 (2 : Int32)) (fun v13 =>
            (w10 + 2) + (jushr v13 (1 : Int32)))
          else
            w10 + (jushr w9 (1 : Int32))) (fun J11 =>
        if (16 : Int32) < w6 then
          letT (jushr w6 (4 : Int32)) (fun v15 =>
          J11 v15 (w7 + 4))
        else
          J11 w6 w7)) (fun J8 =>
      if (256 : Int32) < w3 then
        letT (jushr w3 (8 : Int32)) (fun v17 =>
        J8 v17 (w4 + 8))
      else
        J8 w3 w4)) (fun J5 =>
    if (65536 : Int32) < v1 then
      letT (jushr v1 (16 : Int32)) (fun v19 =>
      J5 v19 ((1 : Int32) + 16))
    else
      J5 v1 (1 : Int32))
  else
    v1 &&& (32 : Int32))
theorem sJ6_numberOfTrailingZeros_0f7a4 (p0 : Int32) (h : AH) : Sim RJ6 cJ6_numberOfTrailingZeros_0f7a4 2 (some .int) 1 (tI h) (fJ6_numberOfTrailingZeros_0f7a4 p0 h) 0 [(0, .int p0)] [] h := by
  unfold fJ6_numberOfTrailingZeros_0f7a4
  refine sim_iload_n 0 rfl dJ6_numberOfTrailingZeros_0f7a4_0 ?_
  refine sim_iconst (v := -1) (by decide) dJ6_numberOfTrailingZeros_0f7a4_1 ?_
  refine sim_ixor dJ6_numberOfTrailingZeros_0f7a4_2 ?_
  refine sim_iload_n 0 rfl dJ6_numberOfTrailingZeros_0f7a4_3 ?_
  refine sim_iconst (v := 1) (by decide) dJ6_numberOfTrailingZeros_0f7a4_4 ?_
  refine sim_isub dJ6_numberOfTrailingZeros_0f7a4_5 ?_
  refine sim_iand dJ6_numberOfTrailingZeros_0f7a4_6 ?_
  refine sim_nmI (fun v1 => ?_)
  refine sim_istore_n (L' := [(0, .int v1)]) rfl (by decide) dJ6_numberOfTrailingZeros_0f7a4_7 ?_
  refine sim_iload_n 0 rfl dJ6_numberOfTrailingZeros_0f7a4_8 ?_
  refine sim_if_gt (tgt := 17) dJ6_numberOfTrailingZeros_0f7a4_9 (by decide) (fun c2 => ?_) (fun c2 => ?_)
  · refine sim_iconst (v := 1) (by decide) dJ6_numberOfTrailingZeros_0f7a4_17 ?_
    refine sim_istore_n (L' := [(1, .int (1 : Int32)), (0, .int v1)]) rfl (by decide) dJ6_numberOfTrailingZeros_0f7a4_18 ?_
    refine sim_iload_n 1 rfl dJ6_numberOfTrailingZeros_0f7a4_19 ?_
    refine sim_ldcw kcJ6_264 dJ6_numberOfTrailingZeros_0f7a4_20 ?_
    refine sim_letJ (fun J5 => ∀ (w3 : Int32) (w4 : Int32), Sim RJ6 cJ6_numberOfTrailingZeros_0f7a4 2 (some .int) 1 (tI h) (J5 w3 w4) 34 [(0, .int w3), (1, .int w4)] [] h) (fun w3 w4 => ?_) (fun J5 hJ5 => ?_)
    · refine sim_iload_n 0 rfl dJ6_numberOfTrailingZeros_0f7a4_34 ?_
      refine sim_sipush (v := 256) (by decide) dJ6_numberOfTrailingZeros_0f7a4_35 ?_
      refine sim_letJ (fun J8 => ∀ (w6 : Int32) (w7 : Int32), Sim RJ6 cJ6_numberOfTrailingZeros_0f7a4 2 (some .int) 1 (tI h) (J8 w6 w7) 49 [(0, .int w6), (1, .int w7)] [] h) (fun w6 w7 => ?_) (fun J8 hJ8 => ?_)
      · refine sim_iload_n 0 rfl dJ6_numberOfTrailingZeros_0f7a4_49 ?_
        refine sim_bipush (v := 16) (by decide) dJ6_numberOfTrailingZeros_0f7a4_50 ?_
        refine sim_letJ (fun J11 => ∀ (w9 : Int32) (w10 : Int32), Sim RJ6 cJ6_numberOfTrailingZeros_0f7a4 2 (some .int) 1 (tI h) (J11 w9 w10) 62 [(0, .int w9), (1, .int w10)] [] h) (fun w9 w10 => ?_) (fun J11 hJ11 => ?_)
        · refine sim_iload_n 0 rfl dJ6_numberOfTrailingZeros_0f7a4_62 ?_
          refine sim_iconst (v := 4) (by decide) dJ6_numberOfTrailingZeros_0f7a4_63 ?_
          refine sim_icmp_le (tgt := 74) dJ6_numberOfTrailingZeros_0f7a4_64 (by decide) (fun c12 => ?_) (fun c12 => ?_)
          · refine sim_iload_n 1 rfl dJ6_numberOfTrailingZeros_0f7a4_74 ?_
            refine sim_iload_n 0 rfl dJ6_numberOfTrailingZeros_0f7a4_75 ?_
            refine sim_iconst (v := 1) (by decide) dJ6_numberOfTrailingZeros_0f7a4_76 ?_
            refine sim_iushr dJ6_numberOfTrailingZeros_0f7a4_77 ?_
            refine sim_iadd dJ6_numberOfTrailingZeros_0f7a4_78 ?_
            exact sim_iret rfl rfl dJ6_numberOfTrailingZeros_0f7a4_79
          · refine sim_iinc (v := w10 + 2) (L' := [(1, .int (w10 + 2)), (0, .int w9)]) 1 rfl rfl rfl (by decide) dJ6_numberOfTrailingZeros_0f7a4_67 ?_
            refine sim_iload_n 1 rfl dJ6_numberOfTrailingZeros_0f7a4_70 ?_
            refine sim_iconst (v := 2) (by decide) dJ6_numberOfTrailingZeros_0f7a4_71 ?_
            refine sim_iushr dJ6_numberOfTrailingZeros_0f7a4_72 ?_
            refine sim_nmI (fun v13 => ?_)
            refine sim_istore_n (L' := [(0, .int v13), (1, .int (w10 + 2))]) rfl (by decide) dJ6_numberOfTrailingZeros_0f7a4_73 ?_
            refine sim_iload_n 1 rfl dJ6_numberOfTrailingZeros_0f7a4_74 ?_
            refine sim_iload_n 0 rfl dJ6_numberOfTrailingZeros_0f7a4_75 ?_
            refine sim_iconst (v := 1) (by decide) dJ6_numberOfTrailingZeros_0f7a4_76 ?_
            refine sim_iushr dJ6_numberOfTrailingZeros_0f7a4_77 ?_
            refine sim_iadd dJ6_numberOfTrailingZeros_0f7a4_78 ?_
            exact sim_iret rfl rfl dJ6_numberOfTrailingZeros_0f7a4_79
        refine sim_icmp_le (tgt := 62) dJ6_numberOfTrailingZeros_0f7a4_52 (by decide) (fun c14 => ?_) (fun c14 => ?_)
        · exact hJ11 w6 w7
        · refine sim_iinc (v := w7 + 4) (L' := [(1, .int (w7 + 4)), (0, .int w6)]) 1 rfl rfl rfl (by decide) dJ6_numberOfTrailingZeros_0f7a4_55 ?_
          refine sim_iload_n 1 rfl dJ6_numberOfTrailingZeros_0f7a4_58 ?_
          refine sim_iconst (v := 4) (by decide) dJ6_numberOfTrailingZeros_0f7a4_59 ?_
          refine sim_iushr dJ6_numberOfTrailingZeros_0f7a4_60 ?_
          refine sim_nmI (fun v15 => ?_)
          refine sim_istore_n (L' := [(0, .int v15), (1, .int (w7 + 4))]) rfl (by decide) dJ6_numberOfTrailingZeros_0f7a4_61 ?_
          exact hJ11 v15 (w7 + 4)
      refine sim_icmp_le (tgt := 49) dJ6_numberOfTrailingZeros_0f7a4_38 (by decide) (fun c16 => ?_) (fun c16 => ?_)
      · exact hJ8 w3 w4
      · refine sim_iinc (v := w4 + 8) (L' := [(1, .int (w4 + 8)), (0, .int w3)]) 1 rfl rfl rfl (by decide) dJ6_numberOfTrailingZeros_0f7a4_41 ?_
        refine sim_iload_n 1 rfl dJ6_numberOfTrailingZeros_0f7a4_44 ?_
        refine sim_bipush (v := 8) (by decide) dJ6_numberOfTrailingZeros_0f7a4_45 ?_
        refine sim_iushr dJ6_numberOfTrailingZeros_0f7a4_47 ?_
        refine sim_nmI (fun v17 => ?_)
        refine sim_istore_n (L' := [(0, .int v17), (1, .int (w4 + 8))]) rfl (by decide) dJ6_numberOfTrailingZeros_0f7a4_48 ?_
        exact hJ8 v17 (w4 + 8)
    refine sim_icmp_le (tgt := 34) dJ6_numberOfTrailingZeros_0f7a4_23 (by decide) (fun c18 => ?_) (fun c18 => ?_)
    · refine sim_sub [1, 0] rfl ?_
      exact hJ5 v1 (1 : Int32)
    · refine sim_iinc (v := (1 : Int32) + 16) (L' := [(1, .int ((1 : Int32) + 16)), (0, .int v1)]) 0 rfl rfl rfl (by decide) dJ6_numberOfTrailingZeros_0f7a4_26 ?_
      refine sim_iload_n 1 rfl dJ6_numberOfTrailingZeros_0f7a4_29 ?_
      refine sim_bipush (v := 16) (by decide) dJ6_numberOfTrailingZeros_0f7a4_30 ?_
      refine sim_iushr dJ6_numberOfTrailingZeros_0f7a4_32 ?_
      refine sim_nmI (fun v19 => ?_)
      refine sim_istore_n (L' := [(0, .int v19), (1, .int ((1 : Int32) + 16))]) rfl (by decide) dJ6_numberOfTrailingZeros_0f7a4_33 ?_
      exact hJ5 v19 ((1 : Int32) + 16)
  · refine sim_iload_n 0 rfl dJ6_numberOfTrailingZeros_0f7a4_12 ?_
    refine sim_bipush (v := 32) (by decide) dJ6_numberOfTrailingZeros_0f7a4_13 ?_
    refine sim_iand dJ6_numberOfTrailingZeros_0f7a4_15 ?_
    exact sim_iret rfl rfl dJ6_numberOfTrailingZeros_0f7a4_16
theorem okJ6_numberOfTrailingZeros_0f7a4 (p0 : Int32) (h : AH) : Ok yJ6_numberOfTrailingZeros_0f7a4 cJ6_numberOfTrailingZeros_0f7a4 2 (some .int) 1 [.int p0] h (some (.int (fJ6_numberOfTrailingZeros_0f7a4 p0 h)), h) := ok_of (sJ6_numberOfTrailingZeros_0f7a4 p0 h) rfl (by decide +kernel) (Nat.le_of_ble_eq_true rfl)
def fX8_lowestThatMayBeNext_l2b (rec : Int32 → Option Int32) (K33 : Option Int32) (x1 : Int32) (x2 : Int32) (h : AH) (x3 : Int32) : Option Int32 :=
  if x3 < x2 then
    if (fX11_isIn x1 x3 h) = 0 then
      rec (x3 + 1)
    else
      (fX8_isToWait x3 x1 x2 h).bind (fun b3 =>
      if b3 = 0 then
        some x3
      else
        rec (x3 + 1))
  else
    K33
def fX8_lowestThatMayBeNext_l2 (K33 : Option Int32) (x1 : Int32) (x2 : Int32) (h : AH) : Nat → Int32 → Option Int32
  | 0, _ => none
  | n + 1, x3 => fX8_lowestThatMayBeNext_l2b (fX8_lowestThatMayBeNext_l2 K33 x1 x2 h n) K33 x1 x2 h x3
theorem sX8_lowestThatMayBeNext_l2b {rec : Int32 → Option Int32} {K33 : Option Int32} {x1 : Int32} {x2 : Int32} {h : AH} (hR : ∀ (x3 : Int32), Sim RX8 cX8_lowestThatMayBeNext 4 (some .int) 3 (Option.map (pI h)) (rec x3) 2 [(0, .ref 67), (1, .int x1), (2, .int x2), (3, .int x3)] [] h) (hK33 : Sim RX8 cX8_lowestThatMayBeNext 4 (some .int) 3 (Option.map (pI h)) (K33) 33 [(1, .int x1)] [] h) : ∀ (x3 : Int32), Sim RX8 cX8_lowestThatMayBeNext 4 (some .int) 3 (Option.map (pI h)) (fX8_lowestThatMayBeNext_l2b rec K33 x1 x2 h x3) 2 [(0, .ref 67), (1, .int x1), (2, .int x2), (3, .int x3)] [] h := by
  intro x3
  unfold fX8_lowestThatMayBeNext_l2b
  refine sim_iload_n 3 rfl dX8_lowestThatMayBeNext_2 ?_
  refine sim_iload_n 2 rfl dX8_lowestThatMayBeNext_3 ?_
  refine sim_icmp_ge (tgt := 33) dX8_lowestThatMayBeNext_4 (by decide) (fun c1 => ?_) (fun c1 => ?_)
  · refine sim_sub [1] rfl ?_
    exact hK33
  · refine sim_iload_n 1 rfl dX8_lowestThatMayBeNext_7 ?_
    refine sim_iload_n 3 rfl dX8_lowestThatMayBeNext_8 ?_
    refine sim_cS (As := [.int x1, .int x3]) (st := []) (r := (some (.int (fX11_isIn x1 x3 h)))) (h1 := h) (okX11_isIn x1 x3 h) (fun _ => rfl) mlX8_47 mtX11_isIn rfl (Nat.le_of_ble_eq_true rfl) rfl (Nat.le_of_ble_eq_true rfl) dX8_lowestThatMayBeNext_9 ?_
    refine sim_if_eq (tgt := 27) dX8_lowestThatMayBeNext_12 (by decide) (fun c2 => ?_) (fun c2 => ?_)
    · refine sim_iinc (v := x3 + 1) (L' := [(3, .int (x3 + 1)), (0, .ref 67), (1, .int x1), (2, .int x2)]) 3 rfl rfl rfl (by decide) dX8_lowestThatMayBeNext_27 ?_
      refine sim_goto (tgt := 2) dX8_lowestThatMayBeNext_30 (by decide) ?_
      refine sim_sub [1, 2, 3, 0] rfl ?_
      exact hR (x3 + 1)
    · refine sim_aload_n 0 rfl dX8_lowestThatMayBeNext_15 ?_
      refine sim_iload_n 3 rfl dX8_lowestThatMayBeNext_16 ?_
      refine sim_iload_n 1 rfl dX8_lowestThatMayBeNext_17 ?_
      refine sim_iload_n 2 rfl dX8_lowestThatMayBeNext_18 ?_
      refine sim_bind (fun b3 e4 => ?_)
      refine sim_cV (As := [.int x3, .int x1, .int x2]) (st := []) (r := (some (.int b3))) (h1 := h) (okX8_isToWait x3 x1 x2 h b3 e4) (fun _ => rfl) mlX8_51 mtX8_isToWait rfl rfl rfl rfl (Nat.le_of_ble_eq_true rfl) rfl (Nat.le_of_ble_eq_true rfl) dX8_lowestThatMayBeNext_19 ?_
      refine sim_if_ne (tgt := 27) dX8_lowestThatMayBeNext_22 (by decide) (fun c5 => ?_) (fun c5 => ?_)
      · refine sim_iinc (v := x3 + 1) (L' := [(3, .int (x3 + 1)), (0, .ref 67), (1, .int x1), (2, .int x2)]) 3 rfl rfl rfl (by decide) dX8_lowestThatMayBeNext_27 ?_
        refine sim_goto (tgt := 2) dX8_lowestThatMayBeNext_30 (by decide) ?_
        refine sim_sub [1, 2, 3, 0] rfl ?_
        exact hR (x3 + 1)
      · refine sim_iload_n 3 rfl dX8_lowestThatMayBeNext_25 ?_
        exact sim_iret rfl rfl dX8_lowestThatMayBeNext_26
theorem sX8_lowestThatMayBeNext_l2 {K33 : Option Int32} {x1 : Int32} {x2 : Int32} {h : AH} (hK33 : Sim RX8 cX8_lowestThatMayBeNext 4 (some .int) 3 (Option.map (pI h)) (K33) 33 [(1, .int x1)] [] h) : ∀ (n : Nat) (x3 : Int32), Sim RX8 cX8_lowestThatMayBeNext 4 (some .int) 3 (Option.map (pI h)) (fX8_lowestThatMayBeNext_l2 K33 x1 x2 h n x3) 2 [(0, .ref 67), (1, .int x1), (2, .int x2), (3, .int x3)] [] h := by
  intro n
  induction n with
  | zero => intro x3; exact sim_none
  | succ n ih => intro x3; exact sX8_lowestThatMayBeNext_l2b ih hK33 x3
def fX8_lowestThatMayBeNext (p1 : Int32) (p2 : Int32) (h : AH) : Option Int32 :=
  fX8_lowestThatMayBeNext_l2 (some (fJ6_numberOfTrailingZeros_0f7a4 p1 h)) p1 p2 h fuel0 (0 : Int32)
theorem sX8_lowestThatMayBeNext (p1 : Int32) (p2 : Int32) (h : AH) : Sim RX8 cX8_lowestThatMayBeNext 4 (some .int) 3 (Option.map (pI h)) (fX8_lowestThatMayBeNext p1 p2 h) 0 [(0, .ref 67), (1, .int p1), (2, .int p2)] [] h := by
  unfold fX8_lowestThatMayBeNext
  refine sim_iconst (v := 0) (by decide) dX8_lowestThatMayBeNext_0 ?_
  refine sim_istore_n (L' := [(3, .int (0 : Int32)), (0, .ref 67), (1, .int p1), (2, .int p2)]) rfl (by decide) dX8_lowestThatMayBeNext_1 ?_
  refine sim_sub [1, 2, 3, 0] rfl ?_
  refine sX8_lowestThatMayBeNext_l2 ?_ _ (0 : Int32)
  · refine sim_iload_n 0 rfl dX8_lowestThatMayBeNext_33 ?_
    refine sim_cS (As := [.int p1]) (st := []) (r := (some (.int (fJ6_numberOfTrailingZeros_0f7a4 p1 h)))) (h1 := h) (okJ6_numberOfTrailingZeros_0f7a4 p1 h) (fun _ => rfl) mlX8_55 mtJ6_numberOfTrailingZeros_0f7a4 rfl (Nat.le_of_ble_eq_true rfl) rfl (Nat.le_of_ble_eq_true rfl) dX8_lowestThatMayBeNext_34 ?_
    exact sim_iret rfl rfl dX8_lowestThatMayBeNext_37
theorem okX8_lowestThatMayBeNext (p1 : Int32) (p2 : Int32) (h : AH) (b : Int32) (e : fX8_lowestThatMayBeNext p1 p2 h = some b) : Ok yX8_lowestThatMayBeNext cX8_lowestThatMayBeNext 4 (some .int) 3 [.ref 67, .int p1, .int p2] h (some (.int b), h) := ok_of (sX8_lowestThatMayBeNext p1 p2 h) (by rw [e]; rfl) (by decide +kernel) (Nat.le_of_ble_eq_true rfl)
def fX8_shorten_l13b (rec : Int64 → Int64 → Int32 → Option AH) (K42 : Int64 → Option AH) (h : AH) (x1 : Int64) (x3 : Int64) (x5 : Int32) : Option AH :=
  if x5 < (100 : Int32) then
    if (lg_cmp x3 (0 : Int64)) = 0 then
      K42 x1
    else
      if x3 = 0 then none else
      rec x3 (jremL x1 x3) (x5 + 1)
  else
    K42 x1
def fX8_shorten_l13 (K42 : Int64 → Option AH) (h : AH) : Nat → Int64 → Int64 → Int32 → Option AH
  | 0, _, _, _ => none
  | n + 1, x1, x3, x5 => fX8_shorten_l13b (fX8_shorten_l13 K42 h n) K42 h x1 x3 x5
theorem sX8_shorten_l13b {rec : Int64 → Int64 → Int32 → Option AH} {K42 : Int64 → Option AH} {h : AH} (hR : ∀ (x1 : Int64) (x3 : Int64) (x5 : Int32), Sim RX8 cX8_shorten 8 none 1 (Option.map oV) (rec x1 x3 x5) 13 [(0, .ref 67), (1, .long x1), (3, .long x3), (5, .int x5)] [] h) (hK42 : ∀ (y1 : Int64), Sim RX8 cX8_shorten 8 none 1 (Option.map oV) (K42 y1) 42 [(0, .ref 67), (1, .long y1)] [] h) : ∀ (x1 : Int64) (x3 : Int64) (x5 : Int32), Sim RX8 cX8_shorten 8 none 1 (Option.map oV) (fX8_shorten_l13b rec K42 h x1 x3 x5) 13 [(0, .ref 67), (1, .long x1), (3, .long x3), (5, .int x5)] [] h := by
  intro x1 x3 x5
  unfold fX8_shorten_l13b
  refine sim_iload 3 rfl dX8_shorten_13 ?_
  refine sim_bipush (v := 100) (by decide) dX8_shorten_15 ?_
  refine sim_icmp_ge (tgt := 42) dX8_shorten_17 (by decide) (fun c1 => ?_) (fun c1 => ?_)
  · refine sim_sub [0, 1] rfl ?_
    exact hK42 x1
  · refine sim_lload_n 2 rfl dX8_shorten_20 ?_
    refine sim_lconst (v := 0) (by decide) dX8_shorten_21 ?_
    refine sim_lcmp dX8_shorten_22 ?_
    refine sim_if_eq (tgt := 42) dX8_shorten_23 (by decide) (fun c2 => ?_) (fun c2 => ?_)
    · refine sim_sub [0, 1] rfl ?_
      exact hK42 x1
    · refine sim_lload_n 1 rfl dX8_shorten_26 ?_
      refine sim_lload_n 2 rfl dX8_shorten_27 ?_
      refine sim_nguard (fun c3 => ?_)
      refine sim_lrem c3 dX8_shorten_28 ?_
      refine sim_lstore (L' := [(6, .long (jremL x1 x3)), (0, .ref 67), (1, .long x1), (3, .long x3), (5, .int x5)]) rfl (by decide) dX8_shorten_29 ?_
      refine sim_lload_n 3 rfl dX8_shorten_31 ?_
      refine sim_lstore_n (L' := [(1, .long x3), (6, .long (jremL x1 x3)), (0, .ref 67), (3, .long x3), (5, .int x5)]) rfl (by decide) dX8_shorten_32 ?_
      refine sim_lload 1 rfl dX8_shorten_33 ?_
      refine sim_lstore_n (L' := [(3, .long (jremL x1 x3)), (1, .long x3), (6, .long (jremL x1 x3)), (0, .ref 67), (5, .int x5)]) rfl (by decide) dX8_shorten_35 ?_
      refine sim_iinc (v := x5 + 1) (L' := [(5, .int (x5 + 1)), (3, .long (jremL x1 x3)), (1, .long x3), (6, .long (jremL x1 x3)), (0, .ref 67)]) 4 rfl rfl rfl (by decide) dX8_shorten_36 ?_
      refine sim_goto (tgt := 13) dX8_shorten_39 (by decide) ?_
      refine sim_sub [4, 2, 1, 0] rfl ?_
      exact hR x3 (jremL x1 x3) (x5 + 1)
theorem sX8_shorten_l13 {K42 : Int64 → Option AH} {h : AH} (hK42 : ∀ (y1 : Int64), Sim RX8 cX8_shorten 8 none 1 (Option.map oV) (K42 y1) 42 [(0, .ref 67), (1, .long y1)] [] h) : ∀ (n : Nat) (x1 : Int64) (x3 : Int64) (x5 : Int32), Sim RX8 cX8_shorten 8 none 1 (Option.map oV) (fX8_shorten_l13 K42 h n x1 x3 x5) 13 [(0, .ref 67), (1, .long x1), (3, .long x3), (5, .int x5)] [] h := by
  intro n
  induction n with
  | zero => intro x1 x3 x5; exact sim_none
  | succ n ih => intro x1 x3 x5; exact sX8_shorten_l13b ih hK42 x1 x3 x5
def fX8_shorten (h : AH) : Option AH :=
  fX8_shorten_l13 (fun (y4 : Int64) =>
    if (lg_cmp (h.2 67 4) (0 : Int64)) = 0 then
      letT (sJ h 67 4 (1 : Int64)) (fun g11 =>
      some g11)
    else
      if 0 < (lg_cmp y4 (0 : Int64)) then
        if y4 = 0 then none else
        letT (sJ h 67 3 ((h.2 67 3) / y4)) (fun g8 =>
        if y4 = 0 then none else
        letT (sJ g8 67 4 ((g8.2 67 4) / y4)) (fun g10 =>
        some g10))
      else
        some h) h fuel0 (h.2 67 3) (h.2 67 4) (0 : Int32)
theorem sX8_shorten (h : AH) : Sim RX8 cX8_shorten 8 none 1 (Option.map oV) (fX8_shorten h) 0 [(0, .ref 67)] [] h := by
  unfold fX8_shorten
  refine sim_aload_n 0 rfl dX8_shorten_0 ?_
  refine sim_getJ flX8_21 rfl rfl dX8_shorten_1 ?_
  refine sim_lstore_n (L' := [(1, .long (h.2 67 3)), (0, .ref 67)]) rfl (by decide) dX8_shorten_4 ?_
  refine sim_aload_n 1 rfl dX8_shorten_5 ?_
  refine sim_getJ flX8_25 rfl rfl dX8_shorten_6 ?_
  refine sim_lstore_n (L' := [(3, .long (h.2 67 4)), (1, .long (h.2 67 3)), (0, .ref 67)]) rfl (by decide) dX8_shorten_9 ?_
  refine sim_iconst (v := 0) (by decide) dX8_shorten_10 ?_
  refine sim_istore (L' := [(5, .int (0 : Int32)), (3, .long (h.2 67 4)), (1, .long (h.2 67 3)), (0, .ref 67)]) rfl (by decide) dX8_shorten_11 ?_
  refine sim_sub [3, 2, 1, 0] rfl ?_
  refine sX8_shorten_l13 (fun y4 => ?_) _ (h.2 67 3) (h.2 67 4) (0 : Int32)
  · refine sim_aload_n 0 rfl dX8_shorten_42 ?_
    refine sim_getJ flX8_25 rfl rfl dX8_shorten_43 ?_
    refine sim_lconst (v := 0) (by decide) dX8_shorten_46 ?_
    refine sim_lcmp dX8_shorten_47 ?_
    refine sim_if_ne (tgt := 59) dX8_shorten_48 (by decide) (fun c5 => ?_) (fun c5 => ?_)
    · refine sim_lload_n 1 rfl dX8_shorten_59 ?_
      refine sim_lconst (v := 0) (by decide) dX8_shorten_60 ?_
      refine sim_lcmp dX8_shorten_61 ?_
      refine sim_if_le (tgt := 85) dX8_shorten_62 (by decide) (fun c6 => ?_) (fun c6 => ?_)
      · exact sim_vret rfl rfl dX8_shorten_85
      · refine sim_aload_n 0 rfl dX8_shorten_65 ?_
        refine sim_dup dX8_shorten_66 rfl ?_
        refine sim_getJ flX8_21 rfl rfl dX8_shorten_67 ?_
        refine sim_lload_n 1 rfl dX8_shorten_70 ?_
        refine sim_nguard (fun c7 => ?_)
        refine sim_ldiv c7 dX8_shorten_71 ?_
        refine sim_putJ fpX8_21 rfl rfl dX8_shorten_72 ?_
        refine sim_nmH (fun g8 => ?_)
        refine sim_aload_n 0 rfl dX8_shorten_75 ?_
        refine sim_dup dX8_shorten_76 rfl ?_
        refine sim_getJ flX8_25 rfl rfl dX8_shorten_77 ?_
        refine sim_lload_n 1 rfl dX8_shorten_80 ?_
        refine sim_nguard (fun c9 => ?_)
        refine sim_ldiv c9 dX8_shorten_81 ?_
        refine sim_putJ fpX8_25 rfl rfl dX8_shorten_82 ?_
        refine sim_nmH (fun g10 => ?_)
        exact sim_vret rfl rfl dX8_shorten_85
    · refine sim_aload_n 0 rfl dX8_shorten_51 ?_
      refine sim_lconst (v := 1) (by decide) dX8_shorten_52 ?_
      refine sim_putJ fpX8_25 rfl rfl dX8_shorten_53 ?_
      refine sim_nmH (fun g11 => ?_)
      refine sim_goto (tgt := 85) dX8_shorten_56 (by decide) ?_
      exact sim_vret rfl rfl dX8_shorten_85
theorem okX8_shorten (h : AH) (b : AH) (e : fX8_shorten h = some b) : Ok yX8_shorten cX8_shorten 8 none 1 [.ref 67] h (none, b) := ok_of (sX8_shorten h) (by rw [e]; rfl) (by decide +kernel) (Nat.le_of_ble_eq_true rfl)
def fX8_rank_l22b (rec : Int32 → Int64 → Int32 → AH → Option AH) (K116 : AH → Option AH) (x1 : Int32) (x2 : Int32) (x3 : Int64) (x5 : Int32) (h : AH) : Option AH :=
  if x5 < x1 then
    (fX8_lowestThatMayBeNext x2 x1 h).bind (fun b5 =>
    letT (x2 &&& ((fX11_bit b5 h) ^^^ (-1 : Int32))) (fun v7 =>
    letT (fX11_put 70 x5 b5 h) (fun g8 =>
    letT (x3 + ((fX11_at 68 b5 g8).toInt64)) (fun v9 =>
    letT (sJ g8 67 3 ((g8.2 67 3) + (v9 * ((fX11_at 69 b5 g8).toInt64)))) (fun g10 =>
    letT (sJ g10 67 4 ((g10.2 67 4) + ((fX11_at 69 b5 g10).toInt64))) (fun g11 =>
    rec v7 v9 (x5 + 1) g11))))))
  else
    K116 h
def fX8_rank_l22 (K116 : AH → Option AH) (x1 : Int32) : Nat → Int32 → Int64 → Int32 → AH → Option AH
  | 0, _, _, _, _ => none
  | n + 1, x2, x3, x5, h => fX8_rank_l22b (fX8_rank_l22 K116 x1 n) K116 x1 x2 x3 x5 h
theorem sX8_rank_l22b {rec : Int32 → Int64 → Int32 → AH → Option AH} {K116 : AH → Option AH} {x1 : Int32} (hR : ∀ (x2 : Int32) (x3 : Int64) (x5 : Int32) (h : AH), Sim RX8 cX8_rank 7 none 4 (Option.map oV) (rec x2 x3 x5 h) 22 [(0, .ref 67), (1, .int x1), (2, .int x2), (3, .long x3), (5, .int x5)] [] h) (hK116 : ∀ (g : AH), Sim RX8 cX8_rank 7 none 4 (Option.map oV) (K116 g) 116 [(0, .ref 67)] [] g) : ∀ (x2 : Int32) (x3 : Int64) (x5 : Int32) (h : AH), Sim RX8 cX8_rank 7 none 4 (Option.map oV) (fX8_rank_l22b rec K116 x1 x2 x3 x5 h) 22 [(0, .ref 67), (1, .int x1), (2, .int x2), (3, .long x3), (5, .int x5)] [] h := by
  intro x2 x3 x5 h
  unfold fX8_rank_l22b
  refine sim_iload 4 rfl dX8_rank_22 ?_
  refine sim_iload_n 1 rfl dX8_rank_24 ?_
  refine sim_icmp_ge (tgt := 116) dX8_rank_25 (by decide) (fun c4 => ?_) (fun c4 => ?_)
  · refine sim_sub [0] rfl ?_
    exact hK116 h
  · refine sim_aload_n 0 rfl dX8_rank_28 ?_
    refine sim_iload_n 2 rfl dX8_rank_29 ?_
    refine sim_iload_n 1 rfl dX8_rank_30 ?_
    refine sim_bind (fun b5 e6 => ?_)
    refine sim_cV (As := [.int x2, .int x1]) (st := []) (r := (some (.int b5))) (h1 := h) (okX8_lowestThatMayBeNext x2 x1 h b5 e6) (fun _ => rfl) mlX8_32 mtX8_lowestThatMayBeNext rfl rfl rfl rfl (Nat.le_of_ble_eq_true rfl) rfl (Nat.le_of_ble_eq_true rfl) dX8_rank_31 ?_
    refine sim_istore (L' := [(6, .int b5), (0, .ref 67), (1, .int x1), (2, .int x2), (3, .long x3), (5, .int x5)]) rfl (by decide) dX8_rank_34 ?_
    refine sim_iload_n 3 rfl dX8_rank_36 ?_
    refine sim_iload 0 rfl dX8_rank_37 ?_
    refine sim_cS (As := [.int b5]) (st := [.int x2]) (r := (some (.int (fX11_bit b5 h)))) (h1 := h) (okX11_bit b5 h) (fun _ => rfl) mlX8_28 mtX11_bit rfl (Nat.le_of_ble_eq_true rfl) rfl (Nat.le_of_ble_eq_true rfl) dX8_rank_39 ?_
    refine sim_iconst (v := -1) (by decide) dX8_rank_42 ?_
    refine sim_ixor dX8_rank_43 ?_
    refine sim_iand dX8_rank_44 ?_
    refine sim_nmI (fun v7 => ?_)
    refine sim_istore_n (L' := [(2, .int v7), (6, .int b5), (0, .ref 67), (1, .int x1), (3, .long x3), (5, .int x5)]) rfl (by decide) dX8_rank_45 ?_
    refine sim_aload_n 2 rfl dX8_rank_46 ?_
    refine sim_getR flX8_18 rfl rfl dX8_rank_47 ?_
    refine sim_iload 5 rfl dX8_rank_50 ?_
    refine sim_iload 1 rfl dX8_rank_52 ?_
    refine sim_cS (As := [.ref 70, .int x5, .int b5]) (st := []) (r := none) (h1 := (fX11_put 70 x5 b5 h)) (okX11_put 70 rfl x5 b5 h) (fun _ => rfl) mlX8_36 mtX11_put rfl (Nat.le_of_ble_eq_true rfl) rfl (Nat.le_of_ble_eq_true rfl) dX8_rank_54 ?_
    refine sim_nmH (fun g8 => ?_)
    refine sim_lload_n 4 rfl dX8_rank_57 ?_
    refine sim_aload_n 2 rfl dX8_rank_58 ?_
    refine sim_getR flX8_9 rfl rfl dX8_rank_59 ?_
    refine sim_iload 1 rfl dX8_rank_62 ?_
    refine sim_cS (As := [.ref 68, .int b5]) (st := [.long x3]) (r := (some (.int (fX11_at 68 b5 g8)))) (h1 := g8) (okX11_at 68 rfl b5 g8) (fun _ => rfl) mlX8_40 mtX11_at rfl (Nat.le_of_ble_eq_true rfl) rfl (Nat.le_of_ble_eq_true rfl) dX8_rank_64 ?_
    refine sim_i2l dX8_rank_67 ?_
    refine sim_ladd dX8_rank_68 ?_
    refine sim_nmJ (fun v9 => ?_)
    refine sim_lstore_n (L' := [(3, .long v9), (2, .int v7), (6, .int b5), (0, .ref 67), (1, .int x1), (5, .int x5)]) rfl (by decide) dX8_rank_69 ?_
    refine sim_aload_n 3 rfl dX8_rank_70 ?_
    refine sim_dup dX8_rank_71 rfl ?_
    refine sim_getJ flX8_21 rfl rfl dX8_rank_72 ?_
    refine sim_lload_n 0 rfl dX8_rank_75 ?_
    refine sim_aload_n 3 rfl dX8_rank_76 ?_
    refine sim_getR flX8_15 rfl rfl dX8_rank_77 ?_
    refine sim_iload 2 rfl dX8_rank_80 ?_
    refine sim_cS (As := [.ref 69, .int b5]) (st := [.long v9, .long (g8.2 67 3), .ref 67]) (r := (some (.int (fX11_at 69 b5 g8)))) (h1 := g8) (okX11_at 69 rfl b5 g8) (fun _ => rfl) mlX8_40 mtX11_at rfl (Nat.le_of_ble_eq_true rfl) rfl (Nat.le_of_ble_eq_true rfl) dX8_rank_82 ?_
    refine sim_i2l dX8_rank_85 ?_
    refine sim_lmul dX8_rank_86 ?_
    refine sim_ladd dX8_rank_87 ?_
    refine sim_putJ fpX8_21 rfl rfl dX8_rank_88 ?_
    refine sim_nmH (fun g10 => ?_)
    refine sim_aload_n 3 rfl dX8_rank_91 ?_
    refine sim_dup dX8_rank_92 rfl ?_
    refine sim_getJ flX8_25 rfl rfl dX8_rank_93 ?_
    refine sim_aload_n 3 rfl dX8_rank_96 ?_
    refine sim_getR flX8_15 rfl rfl dX8_rank_97 ?_
    refine sim_iload 2 rfl dX8_rank_100 ?_
    refine sim_cS (As := [.ref 69, .int b5]) (st := [.long (g10.2 67 4), .ref 67]) (r := (some (.int (fX11_at 69 b5 g10)))) (h1 := g10) (okX11_at 69 rfl b5 g10) (fun _ => rfl) mlX8_40 mtX11_at rfl (Nat.le_of_ble_eq_true rfl) rfl (Nat.le_of_ble_eq_true rfl) dX8_rank_102 ?_
    refine sim_i2l dX8_rank_105 ?_
    refine sim_ladd dX8_rank_106 ?_
    refine sim_putJ fpX8_25 rfl rfl dX8_rank_107 ?_
    refine sim_nmH (fun g11 => ?_)
    refine sim_iinc (v := x5 + 1) (L' := [(5, .int (x5 + 1)), (3, .long v9), (2, .int v7), (6, .int b5), (0, .ref 67), (1, .int x1)]) 5 rfl rfl rfl (by decide) dX8_rank_110 ?_
    refine sim_goto (tgt := 22) dX8_rank_113 (by decide) ?_
    refine sim_sub [4, 5, 2, 1, 0] rfl ?_
    exact hR v7 v9 (x5 + 1) g11
theorem sX8_rank_l22 {K116 : AH → Option AH} {x1 : Int32} (hK116 : ∀ (g : AH), Sim RX8 cX8_rank 7 none 4 (Option.map oV) (K116 g) 116 [(0, .ref 67)] [] g) : ∀ (n : Nat) (x2 : Int32) (x3 : Int64) (x5 : Int32) (h : AH), Sim RX8 cX8_rank 7 none 4 (Option.map oV) (fX8_rank_l22 K116 x1 n x2 x3 x5 h) 22 [(0, .ref 67), (1, .int x1), (2, .int x2), (3, .long x3), (5, .int x5)] [] h := by
  intro n
  induction n with
  | zero => intro x2 x3 x5 h; exact sim_none
  | succ n ih => intro x2 x3 x5 h; exact sX8_rank_l22b ih hK116 x2 x3 x5 h
def fX8_rank (p1 : Int32) (h : AH) : Option AH :=
  letT ((fX11_bit p1 h) - (1 : Int32)) (fun v1 =>
  letT (sJ h 67 3 (0 : Int64)) (fun g2 =>
  letT (sJ g2 67 4 (0 : Int64)) (fun g3 =>
  fX8_rank_l22 (fun (g12 : AH) =>
    (fX8_shorten g12).bind (fun b13 =>
    some b13)) p1 fuel0 v1 (0 : Int64) (0 : Int32) g3)))
theorem sX8_rank (p1 : Int32) (h : AH) : Sim RX8 cX8_rank 7 none 4 (Option.map oV) (fX8_rank p1 h) 0 [(0, .ref 67), (1, .int p1)] [] h := by
  unfold fX8_rank
  refine sim_iload_n 1 rfl dX8_rank_0 ?_
  refine sim_cS (As := [.int p1]) (st := []) (r := (some (.int (fX11_bit p1 h)))) (h1 := h) (okX11_bit p1 h) (fun _ => rfl) mlX8_28 mtX11_bit rfl (Nat.le_of_ble_eq_true rfl) rfl (Nat.le_of_ble_eq_true rfl) dX8_rank_1 ?_
  refine sim_iconst (v := 1) (by decide) dX8_rank_4 ?_
  refine sim_isub dX8_rank_5 ?_
  refine sim_nmI (fun v1 => ?_)
  refine sim_istore_n (L' := [(2, .int v1), (0, .ref 67), (1, .int p1)]) rfl (by decide) dX8_rank_6 ?_
  refine sim_lconst (v := 0) (by decide) dX8_rank_7 ?_
  refine sim_lstore_n (L' := [(3, .long (0 : Int64)), (2, .int v1), (0, .ref 67), (1, .int p1)]) rfl (by decide) dX8_rank_8 ?_
  refine sim_aload_n 2 rfl dX8_rank_9 ?_
  refine sim_lconst (v := 0) (by decide) dX8_rank_10 ?_
  refine sim_putJ fpX8_21 rfl rfl dX8_rank_11 ?_
  refine sim_nmH (fun g2 => ?_)
  refine sim_aload_n 2 rfl dX8_rank_14 ?_
  refine sim_lconst (v := 0) (by decide) dX8_rank_15 ?_
  refine sim_putJ fpX8_25 rfl rfl dX8_rank_16 ?_
  refine sim_nmH (fun g3 => ?_)
  refine sim_iconst (v := 0) (by decide) dX8_rank_19 ?_
  refine sim_istore (L' := [(5, .int (0 : Int32)), (3, .long (0 : Int64)), (2, .int v1), (0, .ref 67), (1, .int p1)]) rfl (by decide) dX8_rank_20 ?_
  refine sim_sub [3, 4, 2, 1, 0] rfl ?_
  refine sX8_rank_l22 (fun g12 => ?_) _ v1 (0 : Int64) (0 : Int32) g3
  · refine sim_aload_n 0 rfl dX8_rank_116 ?_
    refine sim_bind (fun b13 e14 => ?_)
    refine sim_cV (As := []) (st := []) (r := none) (h1 := b13) (okX8_shorten g12 b13 e14) (fun _ => rfl) mlX8_44 mtX8_shorten rfl rfl rfl rfl (Nat.le_of_ble_eq_true rfl) rfl (Nat.le_of_ble_eq_true rfl) dX8_rank_117 ?_
    exact sim_vret rfl rfl dX8_rank_120
theorem okX8_rank (p1 : Int32) (h : AH) (b : AH) (e : fX8_rank p1 h = some b) : Ok yX8_rank cX8_rank 7 none 4 [.ref 67, .int p1] h (none, b) := ok_of (sX8_rank p1 h) (by rw [e]; rfl) (by decide +kernel) (Nat.le_of_ble_eq_true rfl)
def fX11_order_l70b (rec : Int32 → AH → Option (Int64 × AH)) (K133 : AH → Option (Int64 × AH)) (x1 : Int32) (x2 : Int32) (x4 : Int32) (x5 : Int32) (h : AH) : Option (Int64 × AH) :=
  if x5 < (h.1 6 0) then
    (fX11_amountAt (116 : Int32) x5 x1 h).bind (fun b8 =>
    letT (fX11_put 68 x5 b8.1 b8.2) (fun g10 =>
    (fX11_amountAt (119 : Int32) x5 (0 : Int32) g10).bind (fun b11 =>
    letT (fX11_put 69 x5 b11.1 b11.2) (fun g13 =>
    rec (x5 + 1) g13))))
  else
    K133 h
def fX11_order_l70 (K133 : AH → Option (Int64 × AH)) (x1 : Int32) (x2 : Int32) (x4 : Int32) : Nat → Int32 → AH → Option (Int64 × AH)
  | 0, _, _ => none
  | n + 1, x5, h => fX11_order_l70b (fX11_order_l70 K133 x1 x2 x4 n) K133 x1 x2 x4 x5 h
theorem sX11_order_l70b {rec : Int32 → AH → Option (Int64 × AH)} {K133 : AH → Option (Int64 × AH)} {x1 : Int32} {x2 : Int32} {x4 : Int32} (hR : ∀ (x5 : Int32) (h : AH), Sim RX11 cX11_order 6 (some .long) 7 (Option.map oJ) (rec x5 h) 70 [(0, .ref 0), (1, .int x1), (2, .int x2), (4, .int x4), (5, .int x5)] [] h) (hK133 : ∀ (g : AH), Sim RX11 cX11_order 6 (some .long) 7 (Option.map oJ) (K133 g) 133 [(0, .ref 0), (2, .int x2), (4, .int x4)] [] g) : ∀ (x5 : Int32) (h : AH), Sim RX11 cX11_order 6 (some .long) 7 (Option.map oJ) (fX11_order_l70b rec K133 x1 x2 x4 x5 h) 70 [(0, .ref 0), (1, .int x1), (2, .int x2), (4, .int x4), (5, .int x5)] [] h := by
  intro x5 h
  unfold fX11_order_l70b
  refine sim_iload 4 rfl dX11_order_70 ?_
  refine sim_aload_n 0 rfl dX11_order_72 ?_
  refine sim_getR flX11_19 rfl rfl dX11_order_73 ?_
  refine sim_getR flX11_133 rfl rfl dX11_order_76 ?_
  refine sim_getI flX11_198 rfl rfl dX11_order_79 ?_
  refine sim_icmp_ge (tgt := 133) dX11_order_82 (by decide) (fun c7 => ?_) (fun c7 => ?_)
  · refine sim_sub [0, 2, 3] rfl ?_
    exact hK133 h
  · refine sim_aload_n 0 rfl dX11_order_85 ?_
    refine sim_getR flX11_90 rfl rfl dX11_order_86 ?_
    refine sim_getR flX11_282 rfl rfl dX11_order_89 ?_
    refine sim_iload 4 rfl dX11_order_92 ?_
    refine sim_aload_n 0 rfl dX11_order_94 ?_
    refine sim_bipush (v := 116) (by decide) dX11_order_95 ?_
    refine sim_iload 4 rfl dX11_order_97 ?_
    refine sim_iload_n 1 rfl dX11_order_99 ?_
    refine sim_bind (fun b8 e9 => ?_)
    refine sim_cV (As := [.int (116 : Int32), .int x5, .int x1]) (st := [.int x5, .ref 68]) (r := (some (.int b8.1))) (h1 := b8.2) (okX11_amountAt (116 : Int32) x5 x1 h b8 e9) (fun _ => rfl) mlX11_285 mtX11_amountAt rfl rfl rfl rfl (Nat.le_of_ble_eq_true rfl) rfl (Nat.le_of_ble_eq_true rfl) dX11_order_100 ?_
    refine sim_cS (As := [.ref 68, .int x5, .int b8.1]) (st := []) (r := none) (h1 := (fX11_put 68 x5 b8.1 b8.2)) (okX11_put 68 rfl x5 b8.1 b8.2) (fun _ => rfl) mlX11_112 mtX11_put rfl (Nat.le_of_ble_eq_true rfl) rfl (Nat.le_of_ble_eq_true rfl) dX11_order_103 ?_
    refine sim_nmH (fun g10 => ?_)
    refine sim_aload_n 0 rfl dX11_order_106 ?_
    refine sim_getR flX11_90 rfl rfl dX11_order_107 ?_
    refine sim_getR flX11_289 rfl rfl dX11_order_110 ?_
    refine sim_iload 4 rfl dX11_order_113 ?_
    refine sim_aload_n 0 rfl dX11_order_115 ?_
    refine sim_bipush (v := 119) (by decide) dX11_order_116 ?_
    refine sim_iload 4 rfl dX11_order_118 ?_
    refine sim_iconst (v := 0) (by decide) dX11_order_120 ?_
    refine sim_bind (fun b11 e12 => ?_)
    refine sim_cV (As := [.int (119 : Int32), .int x5, .int (0 : Int32)]) (st := [.int x5, .ref 69]) (r := (some (.int b11.1))) (h1 := b11.2) (okX11_amountAt (119 : Int32) x5 (0 : Int32) g10 b11 e12) (fun _ => rfl) mlX11_285 mtX11_amountAt rfl rfl rfl rfl (Nat.le_of_ble_eq_true rfl) rfl (Nat.le_of_ble_eq_true rfl) dX11_order_121 ?_
    refine sim_cS (As := [.ref 69, .int x5, .int b11.1]) (st := []) (r := none) (h1 := (fX11_put 69 x5 b11.1 b11.2)) (okX11_put 69 rfl x5 b11.1 b11.2) (fun _ => rfl) mlX11_112 mtX11_put rfl (Nat.le_of_ble_eq_true rfl) rfl (Nat.le_of_ble_eq_true rfl) dX11_order_124 ?_
    refine sim_nmH (fun g13 => ?_)
    refine sim_iinc (v := x5 + 1) (L' := [(5, .int (x5 + 1)), (0, .ref 0), (1, .int x1), (2, .int x2), (4, .int x4)]) 4 rfl rfl rfl (by decide) dX11_order_127 ?_
    refine sim_goto (tgt := 70) dX11_order_130 (by decide) ?_
    refine sim_sub [1, 2, 3, 4, 0] rfl ?_
    exact hR (x5 + 1) g13
theorem sX11_order_l70 {K133 : AH → Option (Int64 × AH)} {x1 : Int32} {x2 : Int32} {x4 : Int32} (hK133 : ∀ (g : AH), Sim RX11 cX11_order 6 (some .long) 7 (Option.map oJ) (K133 g) 133 [(0, .ref 0), (2, .int x2), (4, .int x4)] [] g) : ∀ (n : Nat) (x5 : Int32) (h : AH), Sim RX11 cX11_order 6 (some .long) 7 (Option.map oJ) (fX11_order_l70 K133 x1 x2 x4 n x5 h) 70 [(0, .ref 0), (1, .int x1), (2, .int x2), (4, .int x4), (5, .int x5)] [] h := by
  intro n
  induction n with
  | zero => intro x5 h; exact sim_none
  | succ n ih => intro x5 h; exact sX11_order_l70b ih hK133 x5 h
def fX11_order (p1 : Int32) (p2 : Int32) (h : AH) : Option (Int64 × AH) :=
  letT (fun (w1 : Int32) =>
    if p1 < 0 then
      some ((-1 : Int64), h)
    else
      if p1 < (10 : Int32) then
        if (h.1 6 0) = 0 then
          some ((-1 : Int64), h)
        else
          letT (fX11_order_l70 (fun (g14 : AH) =>
              (fX8_rank (g14.1 6 0) g14).bind (fun b15 =>
              if w1 = 0 then
                some ((fX11_at 70 p2 b15).toInt64, b15)
              else
                if p2 = (30 : Int32) then
                  some (b15.2 67 3, b15)
                else
                  some (b15.2 67 4, b15))) p1 p2 w1 fuel0 (0 : Int32) h) (fun J6 =>
          if (fX6_holds p2 h) = 0 then
            if w1 = 0 then
              some ((-1 : Int64), h)
            else
              J6
          else
            J6)
      else
        some ((-1 : Int64), h)) (fun J2 =>
  letT (J2 (1 : Int32)) (fun J21 =>
  if p2 = (30 : Int32) then
    J21
  else
    if p2 = (31 : Int32) then
      J21
    else
      J2 (0 : Int32)))
theorem sX11_order (p1 : Int32) (p2 : Int32) (h : AH) : Sim RX11 cX11_order 6 (some .long) 7 (Option.map oJ) (fX11_order p1 p2 h) 0 [(0, .ref 0), (1, .int p1), (2, .int p2)] [] h := by
  unfold fX11_order
  refine sim_aload_n 0 rfl dX11_order_0 ?_
  refine sim_getR flX11_19 rfl rfl dX11_order_1 ?_
  refine sim_getR flX11_133 rfl rfl dX11_order_4 ?_
  refine sim_iload_n 2 rfl dX11_order_7 ?_
  refine sim_cV (As := [.int p2]) (st := []) (r := (some (.int (fX6_holds p2 h)))) (h1 := h) (okX6_holds p2 h) (fun _ => rfl) mlX11_155 mtX6_holds rfl rfl rfl rfl (Nat.le_of_ble_eq_true rfl) rfl (Nat.le_of_ble_eq_true rfl) dX11_order_8 ?_
  refine sim_istore_n (L' := [(3, .int (fX6_holds p2 h)), (0, .ref 0), (1, .int p1), (2, .int p2)]) rfl (by decide) dX11_order_11 ?_
  refine sim_iload_n 3 rfl dX11_order_12 ?_
  refine sim_bipush (v := 30) (by decide) dX11_order_13 ?_
  refine sim_letJ (fun J2 => ∀ (w1 : Int32), Sim RX11 cX11_order 6 (some .long) 7 (Option.map oJ) (J2 w1) 29 [(0, .ref 0), (1, .int p1), (2, .int p2), (3, .int (fX6_holds p2 h))] [.int w1] h) (fun w1 => ?_) (fun J2 hJ2 => ?_)
  · refine sim_istore (L' := [(4, .int w1), (0, .ref 0), (1, .int p1), (2, .int p2), (3, .int (fX6_holds p2 h))]) rfl (by decide) dX11_order_29 ?_
    refine sim_iload_n 2 rfl dX11_order_31 ?_
    refine sim_if_lt (tgt := 63) dX11_order_32 (by decide) (fun c3 => ?_) (fun c3 => ?_)
    · refine sim_ldc2 kcX11_280 dX11_order_63 ?_
      exact sim_lret rfl rfl dX11_order_66
    · refine sim_iload_n 2 rfl dX11_order_35 ?_
      refine sim_bipush (v := 10) (by decide) dX11_order_36 ?_
      refine sim_icmp_ge (tgt := 63) dX11_order_38 (by decide) (fun c4 => ?_) (fun c4 => ?_)
      · refine sim_ldc2 kcX11_280 dX11_order_63 ?_
        exact sim_lret rfl rfl dX11_order_66
      · refine sim_aload_n 1 rfl dX11_order_41 ?_
        refine sim_getR flX11_19 rfl rfl dX11_order_42 ?_
        refine sim_getR flX11_133 rfl rfl dX11_order_45 ?_
        refine sim_getI flX11_198 rfl rfl dX11_order_48 ?_
        refine sim_if_eq (tgt := 63) dX11_order_51 (by decide) (fun c5 => ?_) (fun c5 => ?_)
        · refine sim_ldc2 kcX11_280 dX11_order_63 ?_
          exact sim_lret rfl rfl dX11_order_66
        · refine sim_iload_n 4 rfl dX11_order_54 ?_
          refine sim_letJ (fun J6 => Sim RX11 cX11_order 6 (some .long) 7 (Option.map oJ) (J6) 67 [(0, .ref 0), (1, .int p1), (2, .int p2), (4, .int w1)] [] h) (?_) (fun J6 hJ6 => ?_)
          · refine sim_iconst (v := 0) (by decide) dX11_order_67 ?_
            refine sim_istore (L' := [(5, .int (0 : Int32)), (0, .ref 0), (1, .int p1), (2, .int p2), (4, .int w1)]) rfl (by decide) dX11_order_68 ?_
            refine sim_sub [1, 2, 3, 4, 0] rfl ?_
            refine sX11_order_l70 (fun g14 => ?_) _ (0 : Int32) h
            · refine sim_aload_n 0 rfl dX11_order_133 ?_
              refine sim_getR flX11_90 rfl rfl dX11_order_134 ?_
              refine sim_aload_n 0 rfl dX11_order_137 ?_
              refine sim_getR flX11_19 rfl rfl dX11_order_138 ?_
              refine sim_getR flX11_133 rfl rfl dX11_order_141 ?_
              refine sim_getI flX11_198 rfl rfl dX11_order_144 ?_
              refine sim_bind (fun b15 e16 => ?_)
              refine sim_cV (As := [.int (g14.1 6 0)]) (st := []) (r := none) (h1 := b15) (okX8_rank (g14.1 6 0) g14 b15 e16) (fun _ => rfl) mlX11_292 mtX8_rank rfl rfl rfl rfl (Nat.le_of_ble_eq_true rfl) rfl (Nat.le_of_ble_eq_true rfl) dX11_order_147 ?_
              refine sim_iload 2 rfl dX11_order_150 ?_
              refine sim_if_eq (tgt := 179) dX11_order_152 (by decide) (fun c17 => ?_) (fun c17 => ?_)
              · refine sim_aload_n 0 rfl dX11_order_179 ?_
                refine sim_getR flX11_90 rfl rfl dX11_order_180 ?_
                refine sim_getR flX11_302 rfl rfl dX11_order_183 ?_
                refine sim_iload_n 1 rfl dX11_order_186 ?_
                refine sim_cS (As := [.ref 70, .int p2]) (st := []) (r := (some (.int (fX11_at 70 p2 b15)))) (h1 := b15) (okX11_at 70 rfl p2 b15) (fun _ => rfl) mlX11_164 mtX11_at rfl (Nat.le_of_ble_eq_true rfl) rfl (Nat.le_of_ble_eq_true rfl) dX11_order_187 ?_
                refine sim_i2l dX11_order_190 ?_
                exact sim_lret rfl rfl dX11_order_191
              · refine sim_iload_n 1 rfl dX11_order_155 ?_
                refine sim_bipush (v := 30) (by decide) dX11_order_156 ?_
                refine sim_icmp_ne (tgt := 171) dX11_order_158 (by decide) (fun c18 => ?_) (fun c18 => ?_)
                · refine sim_aload_n 0 rfl dX11_order_171 ?_
                  refine sim_getR flX11_90 rfl rfl dX11_order_172 ?_
                  refine sim_getJ flX11_299 rfl rfl dX11_order_175 ?_
                  exact sim_lret rfl rfl dX11_order_178
                · refine sim_aload_n 0 rfl dX11_order_161 ?_
                  refine sim_getR flX11_90 rfl rfl dX11_order_162 ?_
                  refine sim_getJ flX11_295 rfl rfl dX11_order_165 ?_
                  refine sim_goto (tgt := 178) dX11_order_168 (by decide) ?_
                  exact sim_lret rfl rfl dX11_order_178
          refine sim_if_ne (tgt := 67) dX11_order_55 (by decide) (fun c19 => ?_) (fun c19 => ?_)
          · refine sim_sub [1, 2, 3, 0] rfl ?_
            exact hJ6
          · refine sim_iload 0 rfl dX11_order_58 ?_
            refine sim_if_ne (tgt := 67) dX11_order_60 (by decide) (fun c20 => ?_) (fun c20 => ?_)
            · refine sim_sub [1, 2, 3, 0] rfl ?_
              exact hJ6
            · refine sim_ldc2 kcX11_280 dX11_order_63 ?_
              exact sim_lret rfl rfl dX11_order_66
  refine sim_letJ (fun J21 => Sim RX11 cX11_order 6 (some .long) 7 (Option.map oJ) (J21) 24 [(0, .ref 0), (1, .int p1), (2, .int p2), (3, .int (fX6_holds p2 h))] [] h) (?_) (fun J21 hJ21 => ?_)
  · refine sim_iconst (v := 1) (by decide) dX11_order_24 ?_
    refine sim_goto (tgt := 29) dX11_order_25 (by decide) ?_
    exact hJ2 (1 : Int32)
  refine sim_icmp_eq (tgt := 24) dX11_order_15 (by decide) (fun c22 => ?_) (fun c22 => ?_)
  · refine sim_sub [1, 2, 3, 0] rfl ?_
    exact hJ21
  · refine sim_iload_n 3 rfl dX11_order_18 ?_
    refine sim_bipush (v := 31) (by decide) dX11_order_19 ?_
    refine sim_icmp_ne (tgt := 28) dX11_order_21 (by decide) (fun c23 => ?_) (fun c23 => ?_)
    · refine sim_iconst (v := 0) (by decide) dX11_order_28 ?_
      refine sim_sub [1, 2, 3, 0] rfl ?_
      exact hJ2 (0 : Int32)
    · refine sim_sub [1, 2, 3, 0] rfl ?_
      exact hJ21
theorem okX11_order (p1 : Int32) (p2 : Int32) (h : AH) (b : Int64 × AH) (e : fX11_order p1 p2 h = some b) : Ok yX11_order cX11_order 6 (some .long) 7 [.ref 0, .int p1, .int p2] h (some (.long b.1), b.2) := ok_of (sX11_order p1 p2 h) (by rw [e]; rfl) (by decide +kernel) (Nat.le_of_ble_eq_true rfl)
def fX11_seed (p1 : Int32) (h : AH) : Int32 × AH :=
  if p1 < 0 then
    ((0 : Int32), h)
  else
    if (65535 : Int32) < p1 then
      ((0 : Int32), h)
    else
      letT (sI h 3 1 p1) (fun g3 =>
      ((1 : Int32), g3))
theorem sX11_seed (p1 : Int32) (h : AH) : Sim RX11 cX11_seed 2 (some .boolean) 1 (tP) (fX11_seed p1 h) 0 [(0, .ref 0), (1, .int p1)] [] h := by
  unfold fX11_seed
  refine sim_iload_n 1 rfl dX11_seed_0 ?_
  refine sim_if_lt (tgt := 11) dX11_seed_1 (by decide) (fun c1 => ?_) (fun c1 => ?_)
  · refine sim_iconst (v := 0) (by decide) dX11_seed_11 ?_
    exact sim_zret rfl rfl rfl dX11_seed_12
  · refine sim_iload_n 1 rfl dX11_seed_4 ?_
    refine sim_ldcw kcX11_305 dX11_seed_5 ?_
    refine sim_icmp_le (tgt := 13) dX11_seed_8 (by decide) (fun c2 => ?_) (fun c2 => ?_)
    · refine sim_aload_n 0 rfl dX11_seed_13 ?_
      refine sim_getR flX11_19 rfl rfl dX11_seed_14 ?_
      refine sim_iload_n 1 rfl dX11_seed_17 ?_
      refine sim_putI fpX11_306 rfl rfl rfl rfl dX11_seed_18 ?_
      refine sim_nmH (fun g3 => ?_)
      refine sim_iconst (v := 1) (by decide) dX11_seed_21 ?_
      exact sim_zret rfl rfl rfl dX11_seed_22
    · refine sim_iconst (v := 0) (by decide) dX11_seed_11 ?_
      exact sim_zret rfl rfl rfl dX11_seed_12
theorem okX11_seed (p1 : Int32) (h : AH) : Ok yX11_seed cX11_seed 2 (some .boolean) 1 [.ref 0, .int p1] h (some (.int (fX11_seed p1 h).1), (fX11_seed p1 h).2) := ok_of (sX11_seed p1 h) rfl (by decide +kernel) (Nat.le_of_ble_eq_true rfl)
def fX9_drawNext (h : AH) : AH :=
  letT (sI h 3 1 ((((25173 : Int32) * (h.1 3 1)) + (13849 : Int32)) &&& (65535 : Int32))) (fun g1 =>
  g1)
theorem sX9_drawNext (h : AH) : Sim RX9 cX9_drawNext 1 none 1 (tV) (fX9_drawNext h) 0 [(0, .ref 3)] [] h := by
  unfold fX9_drawNext
  refine sim_aload_n 0 rfl dX9_drawNext_0 ?_
  refine sim_sipush (v := 25173) (by decide) dX9_drawNext_1 ?_
  refine sim_aload_n 0 rfl dX9_drawNext_4 ?_
  refine sim_getI flX9_15 rfl rfl dX9_drawNext_5 ?_
  refine sim_imul dX9_drawNext_8 ?_
  refine sim_sipush (v := 13849) (by decide) dX9_drawNext_9 ?_
  refine sim_iadd dX9_drawNext_12 ?_
  refine sim_ldc kcX9_55 dX9_drawNext_13 ?_
  refine sim_iand dX9_drawNext_15 ?_
  refine sim_putI fpX9_15 rfl rfl rfl rfl dX9_drawNext_16 ?_
  refine sim_nmH (fun g1 => ?_)
  exact sim_vret rfl rfl dX9_drawNext_19
theorem okX9_drawNext (h : AH) : Ok yX9_drawNext cX9_drawNext 1 none 1 [.ref 3] h (none, fX9_drawNext h) := ok_of (sX9_drawNext h) rfl (by decide +kernel) (Nat.le_of_ble_eq_true rfl)
def fX11_copyOnce (h : AH) : Option (Int32 × AH) :=
  letT (fX9_drawNext h) (fun g1 =>
  letT (fun (w2 : Int32) =>
    (fX11_amountAt (99 : Int32) w2 (0 : Int32) g1).bind (fun b4 =>
    if (jrem ((g1.1 3 1) / (32 : Int32)) (10 : Int32)) < b4.1 then
      letT (jmax (1 : Int32) ((b4.2.1 3 0) - (1 : Int32))) (fun v7 =>
      if v7 = 0 then none else
      letT (fX9_modulo (((fX9_claimOf w2 b4.2) + (1 : Int32)) + (jrem ((b4.2.1 3 1) / (512 : Int32)) v7)) b4.2) (fun v9 =>
      (fX9_slipIn w2 v9 7 b4.2).bind (fun b10 =>
      some ((1 : Int32), b10))))
    else
      some ((0 : Int32), b4.2))) (fun J3 =>
  if 0 < (g1.1 6 0) then
    J3 (jrem (g1.1 3 1) (g1.1 6 0))
  else
    J3 (0 : Int32)))
theorem sX11_copyOnce (h : AH) : Sim RX11 cX11_copyOnce 4 (some .boolean) 7 (Option.map oI) (fX11_copyOnce h) 0 [(0, .ref 0)] [] h := by
  unfold fX11_copyOnce
  refine sim_aload_n 0 rfl dX11_copyOnce_0 ?_
  refine sim_getR flX11_19 rfl rfl dX11_copyOnce_1 ?_
  refine sim_cV (As := []) (st := []) (r := none) (h1 := (fX9_drawNext h)) (okX9_drawNext h) (fun _ => rfl) mlX11_366 mtX9_drawNext rfl rfl rfl rfl (Nat.le_of_ble_eq_true rfl) rfl (Nat.le_of_ble_eq_true rfl) dX11_copyOnce_4 ?_
  refine sim_nmH (fun g1 => ?_)
  refine sim_aload_n 0 rfl dX11_copyOnce_7 ?_
  refine sim_getR flX11_19 rfl rfl dX11_copyOnce_8 ?_
  refine sim_getR flX11_133 rfl rfl dX11_copyOnce_11 ?_
  refine sim_getI flX11_198 rfl rfl dX11_copyOnce_14 ?_
  refine sim_letJ (fun J3 => ∀ (w2 : Int32), Sim RX11 cX11_copyOnce 4 (some .boolean) 7 (Option.map oI) (J3 w2) 42 [(0, .ref 0)] [.int w2] g1) (fun w2 => ?_) (fun J3 hJ3 => ?_)
  · refine sim_istore_n (L' := [(1, .int w2), (0, .ref 0)]) rfl (by decide) dX11_copyOnce_42 ?_
    refine sim_aload_n 1 rfl dX11_copyOnce_43 ?_
    refine sim_getR flX11_19 rfl rfl dX11_copyOnce_44 ?_
    refine sim_getI flX11_306 rfl rfl dX11_copyOnce_47 ?_
    refine sim_bipush (v := 32) (by decide) dX11_copyOnce_50 ?_
    refine sim_idiv (by decide) dX11_copyOnce_52 ?_
    refine sim_bipush (v := 10) (by decide) dX11_copyOnce_53 ?_
    refine sim_irem (by decide) dX11_copyOnce_55 ?_
    refine sim_aload_n 1 rfl dX11_copyOnce_56 ?_
    refine sim_bipush (v := 99) (by decide) dX11_copyOnce_57 ?_
    refine sim_iload_n 0 rfl dX11_copyOnce_59 ?_
    refine sim_iconst (v := 0) (by decide) dX11_copyOnce_60 ?_
    refine sim_bind (fun b4 e5 => ?_)
    refine sim_cV (As := [.int (99 : Int32), .int w2, .int (0 : Int32)]) (st := [.int (jrem ((g1.1 3 1) / (32 : Int32)) (10 : Int32))]) (r := (some (.int b4.1))) (h1 := b4.2) (okX11_amountAt (99 : Int32) w2 (0 : Int32) g1 b4 e5) (fun _ => rfl) mlX11_285 mtX11_amountAt rfl rfl rfl rfl (Nat.le_of_ble_eq_true rfl) rfl (Nat.le_of_ble_eq_true rfl) dX11_copyOnce_61 ?_
    refine sim_icmp_lt (tgt := 69) dX11_copyOnce_64 (by decide) (fun c6 => ?_) (fun c6 => ?_)
    · refine sim_iconst (v := 1) (by decide) dX11_copyOnce_69 ?_
      refine sim_aload_n 1 rfl dX11_copyOnce_70 ?_
      refine sim_getR flX11_19 rfl rfl dX11_copyOnce_71 ?_
      refine sim_getI flX11_123 rfl rfl dX11_copyOnce_74 ?_
      refine sim_iconst (v := 1) (by decide) dX11_copyOnce_77 ?_
      refine sim_isub dX11_copyOnce_78 ?_
      refine sim_mmax (gtbl_of 931 (by decide +kernel) rfl) (by first | decide | omega) (Nat.le_of_ble_eq_true rfl) dX11_copyOnce_79 ?_
      refine sim_nmI (fun v7 => ?_)
      refine sim_istore_n (L' := [(2, .int v7), (1, .int w2), (0, .ref 0)]) rfl (by decide) dX11_copyOnce_82 ?_
      refine sim_aload_n 2 rfl dX11_copyOnce_83 ?_
      refine sim_getR flX11_19 rfl rfl dX11_copyOnce_84 ?_
      refine sim_aload_n 2 rfl dX11_copyOnce_87 ?_
      refine sim_getR flX11_19 rfl rfl dX11_copyOnce_88 ?_
      refine sim_iload_n 1 rfl dX11_copyOnce_91 ?_
      refine sim_cV (As := [.int w2]) (st := [.ref 3]) (r := (some (.int (fX9_claimOf w2 b4.2)))) (h1 := b4.2) (okX9_claimOf w2 b4.2) (fun _ => rfl) mlX11_158 mtX9_claimOf rfl rfl rfl rfl (Nat.le_of_ble_eq_true rfl) rfl (Nat.le_of_ble_eq_true rfl) dX11_copyOnce_92 ?_
      refine sim_iconst (v := 1) (by decide) dX11_copyOnce_95 ?_
      refine sim_iadd dX11_copyOnce_96 ?_
      refine sim_aload_n 2 rfl dX11_copyOnce_97 ?_
      refine sim_getR flX11_19 rfl rfl dX11_copyOnce_98 ?_
      refine sim_getI flX11_306 rfl rfl dX11_copyOnce_101 ?_
      refine sim_sipush (v := 512) (by decide) dX11_copyOnce_104 ?_
      refine sim_idiv (by decide) dX11_copyOnce_107 ?_
      refine sim_iload_n 0 rfl dX11_copyOnce_108 ?_
      refine sim_nguard (fun c8 => ?_)
      refine sim_irem c8 dX11_copyOnce_109 ?_
      refine sim_iadd dX11_copyOnce_110 ?_
      refine sim_cV (As := [.int (((fX9_claimOf w2 b4.2) + (1 : Int32)) + (jrem ((b4.2.1 3 1) / (512 : Int32)) v7))]) (st := []) (r := (some (.int (fX9_modulo (((fX9_claimOf w2 b4.2) + (1 : Int32)) + (jrem ((b4.2.1 3 1) / (512 : Int32)) v7)) b4.2)))) (h1 := b4.2) (okX9_modulo (((fX9_claimOf w2 b4.2) + (1 : Int32)) + (jrem ((b4.2.1 3 1) / (512 : Int32)) v7)) b4.2) (fun _ => rfl) mlX11_374 mtX9_modulo rfl rfl rfl rfl (Nat.le_of_ble_eq_true rfl) rfl (Nat.le_of_ble_eq_true rfl) dX11_copyOnce_111 ?_
      refine sim_nmI (fun v9 => ?_)
      refine sim_istore_n (L' := [(3, .int v9), (2, .int v7), (1, .int w2), (0, .ref 0)]) rfl (by decide) dX11_copyOnce_114 ?_
      refine sim_aload_n 3 rfl dX11_copyOnce_115 ?_
      refine sim_getR flX11_19 rfl rfl dX11_copyOnce_116 ?_
      refine sim_iload_n 2 rfl dX11_copyOnce_119 ?_
      refine sim_iload_n 0 rfl dX11_copyOnce_120 ?_
      refine sim_aload_n 3 rfl dX11_copyOnce_121 ?_
      refine sim_getR flX11_19 rfl rfl dX11_copyOnce_122 ?_
      refine sim_getR flX11_133 rfl rfl dX11_copyOnce_125 ?_
      refine sim_getR flX11_178 rfl rfl dX11_copyOnce_128 ?_
      refine sim_bind (fun b10 e11 => ?_)
      refine sim_cV (As := [.int w2, .int v9, .ref 7]) (st := []) (r := none) (h1 := b10) (okX9_slipIn w2 v9 7 rfl b4.2 b10 e11) (fun _ => rfl) mlX11_207 mtX9_slipIn rfl rfl rfl rfl (Nat.le_of_ble_eq_true rfl) rfl (Nat.le_of_ble_eq_true rfl) dX11_copyOnce_131 ?_
      refine sim_iconst (v := 1) (by decide) dX11_copyOnce_134 ?_
      exact sim_zret rfl rfl rfl dX11_copyOnce_135
    · refine sim_iconst (v := 0) (by decide) dX11_copyOnce_67 ?_
      exact sim_zret rfl rfl rfl dX11_copyOnce_68
  refine sim_if_le (tgt := 41) dX11_copyOnce_17 (by decide) (fun c12 => ?_) (fun c12 => ?_)
  · refine sim_iconst (v := 0) (by decide) dX11_copyOnce_41 ?_
    exact hJ3 (0 : Int32)
  · refine sim_aload_n 0 rfl dX11_copyOnce_20 ?_
    refine sim_getR flX11_19 rfl rfl dX11_copyOnce_21 ?_
    refine sim_getI flX11_306 rfl rfl dX11_copyOnce_24 ?_
    refine sim_aload_n 0 rfl dX11_copyOnce_27 ?_
    refine sim_getR flX11_19 rfl rfl dX11_copyOnce_28 ?_
    refine sim_getR flX11_133 rfl rfl dX11_copyOnce_31 ?_
    refine sim_getI flX11_198 rfl rfl dX11_copyOnce_34 ?_
    refine sim_irem (pos_ne c12) dX11_copyOnce_37 ?_
    refine sim_goto (tgt := 42) dX11_copyOnce_38 (by decide) ?_
    exact hJ3 (jrem (g1.1 3 1) (g1.1 6 0))
theorem okX11_copyOnce (h : AH) (b : Int32 × AH) (e : fX11_copyOnce h = some b) : Ok yX11_copyOnce cX11_copyOnce 4 (some .boolean) 7 [.ref 0] h (some (.int b.1), b.2) := ok_of (sX11_copyOnce h) (by rw [e]; rfl) (by decide +kernel) (Nat.le_of_ble_eq_true rfl)
def fX11_copied_l30b (rec : Int32 → Int32 → AH → Option (Int32 × AH)) (x1 : Int32) (x2 : Int32) (x3 : Int32) (h : AH) : Option (Int32 × AH) :=
  if x3 < x1 then
    (fX11_copyOnce h).bind (fun b5 =>
    if b5.1 = 0 then
      letT (x2 + (0 : Int32)) (fun v8 =>
      rec v8 (x3 + 1) b5.2)
    else
      letT (x2 + (1 : Int32)) (fun v9 =>
      rec v9 (x3 + 1) b5.2))
  else
    some (x2, h)
def fX11_copied_l30 (x1 : Int32) : Nat → Int32 → Int32 → AH → Option (Int32 × AH)
  | 0, _, _, _ => none
  | n + 1, x2, x3, h => fX11_copied_l30b (fX11_copied_l30 x1 n) x1 x2 x3 h
theorem sX11_copied_l30b {rec : Int32 → Int32 → AH → Option (Int32 × AH)} {x1 : Int32} (hR : ∀ (x2 : Int32) (x3 : Int32) (h : AH), Sim RX11 cX11_copied 4 (some .int) 8 (Option.map oI) (rec x2 x3 h) 30 [(0, .ref 0), (1, .int x1), (2, .int x2), (3, .int x3)] [] h) : ∀ (x2 : Int32) (x3 : Int32) (h : AH), Sim RX11 cX11_copied 4 (some .int) 8 (Option.map oI) (fX11_copied_l30b rec x1 x2 x3 h) 30 [(0, .ref 0), (1, .int x1), (2, .int x2), (3, .int x3)] [] h := by
  intro x2 x3 h
  unfold fX11_copied_l30b
  refine sim_iload_n 3 rfl dX11_copied_30 ?_
  refine sim_iload_n 1 rfl dX11_copied_31 ?_
  refine sim_icmp_ge (tgt := 56) dX11_copied_32 (by decide) (fun c4 => ?_) (fun c4 => ?_)
  · refine sim_iload_n 2 rfl dX11_copied_56 ?_
    exact sim_iret rfl rfl dX11_copied_57
  · refine sim_iload_n 2 rfl dX11_copied_35 ?_
    refine sim_aload_n 0 rfl dX11_copied_36 ?_
    refine sim_bind (fun b5 e6 => ?_)
    refine sim_cV (As := []) (st := [.int x2]) (r := (some (.int b5.1))) (h1 := b5.2) (okX11_copyOnce h b5 e6) (fun _ => rfl) mlX11_309 mtX11_copyOnce rfl rfl rfl rfl (Nat.le_of_ble_eq_true rfl) rfl (Nat.le_of_ble_eq_true rfl) dX11_copied_37 ?_
    refine sim_if_eq (tgt := 47) dX11_copied_40 (by decide) (fun c7 => ?_) (fun c7 => ?_)
    · refine sim_iconst (v := 0) (by decide) dX11_copied_47 ?_
      refine sim_iadd dX11_copied_48 ?_
      refine sim_nmI (fun v8 => ?_)
      refine sim_istore_n (L' := [(2, .int v8), (0, .ref 0), (1, .int x1), (3, .int x3)]) rfl (by decide) dX11_copied_49 ?_
      refine sim_iinc (v := x3 + 1) (L' := [(3, .int (x3 + 1)), (2, .int v8), (0, .ref 0), (1, .int x1)]) 3 rfl rfl rfl (by decide) dX11_copied_50 ?_
      refine sim_goto (tgt := 30) dX11_copied_53 (by decide) ?_
      refine sim_sub [2, 3, 1, 0] rfl ?_
      exact hR v8 (x3 + 1) b5.2
    · refine sim_iconst (v := 1) (by decide) dX11_copied_43 ?_
      refine sim_goto (tgt := 48) dX11_copied_44 (by decide) ?_
      refine sim_iadd dX11_copied_48 ?_
      refine sim_nmI (fun v9 => ?_)
      refine sim_istore_n (L' := [(2, .int v9), (0, .ref 0), (1, .int x1), (3, .int x3)]) rfl (by decide) dX11_copied_49 ?_
      refine sim_iinc (v := x3 + 1) (L' := [(3, .int (x3 + 1)), (2, .int v9), (0, .ref 0), (1, .int x1)]) 3 rfl rfl rfl (by decide) dX11_copied_50 ?_
      refine sim_goto (tgt := 30) dX11_copied_53 (by decide) ?_
      refine sim_sub [2, 3, 1, 0] rfl ?_
      exact hR v9 (x3 + 1) b5.2
theorem sX11_copied_l30 {x1 : Int32} : ∀ (n : Nat) (x2 : Int32) (x3 : Int32) (h : AH), Sim RX11 cX11_copied 4 (some .int) 8 (Option.map oI) (fX11_copied_l30 x1 n x2 x3 h) 30 [(0, .ref 0), (1, .int x1), (2, .int x2), (3, .int x3)] [] h := by
  intro n
  induction n with
  | zero => intro x2 x3 h; exact sim_none
  | succ n ih => intro x2 x3 h; exact sX11_copied_l30b ih x2 x3 h
def fX11_copied (p1 : Int32) (h : AH) : Option (Int32 × AH) :=
  if p1 < (1 : Int32) then
    some ((-1 : Int32), h)
  else
    if (20 : Int32) < p1 then
      some ((-1 : Int32), h)
    else
      if (h.1 6 0) = 0 then
        some ((-1 : Int32), h)
      else
        fX11_copied_l30 p1 fuel0 (0 : Int32) (0 : Int32) h
theorem sX11_copied (p1 : Int32) (h : AH) : Sim RX11 cX11_copied 4 (some .int) 8 (Option.map oI) (fX11_copied p1 h) 0 [(0, .ref 0), (1, .int p1)] [] h := by
  unfold fX11_copied
  refine sim_iload_n 1 rfl dX11_copied_0 ?_
  refine sim_iconst (v := 1) (by decide) dX11_copied_1 ?_
  refine sim_icmp_lt (tgt := 24) dX11_copied_2 (by decide) (fun c1 => ?_) (fun c1 => ?_)
  · refine sim_iconst (v := -1) (by decide) dX11_copied_24 ?_
    exact sim_iret rfl rfl dX11_copied_25
  · refine sim_iload_n 1 rfl dX11_copied_5 ?_
    refine sim_bipush (v := 20) (by decide) dX11_copied_6 ?_
    refine sim_icmp_gt (tgt := 24) dX11_copied_8 (by decide) (fun c2 => ?_) (fun c2 => ?_)
    · refine sim_iconst (v := -1) (by decide) dX11_copied_24 ?_
      exact sim_iret rfl rfl dX11_copied_25
    · refine sim_aload_n 0 rfl dX11_copied_11 ?_
      refine sim_getR flX11_19 rfl rfl dX11_copied_12 ?_
      refine sim_getR flX11_133 rfl rfl dX11_copied_15 ?_
      refine sim_getI flX11_198 rfl rfl dX11_copied_18 ?_
      refine sim_if_ne (tgt := 26) dX11_copied_21 (by decide) (fun c3 => ?_) (fun c3 => ?_)
      · refine sim_iconst (v := 0) (by decide) dX11_copied_26 ?_
        refine sim_istore_n (L' := [(2, .int (0 : Int32)), (0, .ref 0), (1, .int p1)]) rfl (by decide) dX11_copied_27 ?_
        refine sim_iconst (v := 0) (by decide) dX11_copied_28 ?_
        refine sim_istore_n (L' := [(3, .int (0 : Int32)), (2, .int (0 : Int32)), (0, .ref 0), (1, .int p1)]) rfl (by decide) dX11_copied_29 ?_
        refine sim_sub [2, 3, 1, 0] rfl ?_
        refine sX11_copied_l30 _ (0 : Int32) (0 : Int32) h
      · refine sim_iconst (v := -1) (by decide) dX11_copied_24 ?_
        exact sim_iret rfl rfl dX11_copied_25
theorem okX11_copied (p1 : Int32) (h : AH) (b : Int32 × AH) (e : fX11_copied p1 h = some b) : Ok yX11_copied cX11_copied 4 (some .int) 8 [.ref 0, .int p1] h (some (.int b.1), b.2) := ok_of (sX11_copied p1 h) (by rw [e]; rfl) (by decide +kernel) (Nat.le_of_ble_eq_true rfl)
def fX1_takeFrom_l36b (a1 : Nat) (rec : Int32 → Int32 → AH → Option AH) (K139 : Int32 → AH → Option AH) (x2 : Int32) (x4 : Int32) (x5 : Int32) (x6 : Int32) (h : AH) : Option AH :=
  if x6 < (h.1 71 4) then
    letT (fX11_at a1 ((x4 * (h.1 71 4)) + x6) h) (fun v6 =>
    letT (fun (w7 : Int32) =>
      if w7 = 0 ∨ w7 = 1 then
      letT (sI h 71 5 w7) (fun g10 =>
      letT (fX11_put 74 x6 v6 g10) (fun g11 =>
      letT (fX11_put 72 ((x4 * (20 : Int32)) + x6) v6 g11) (fun g12 =>
      if v6 = (fX9_made x6 74 g12) then
        rec x5 (x6 + 1) g12
      else
        rec x6 (x6 + 1) g12)))
      else none) (fun J8 =>
    letT (J8 (0 : Int32)) (fun J14 =>
    if (h.1 71 5) = 0 then
      J14
    else
      if (fX9_isClaim v6 h) = 0 then
        J14
      else
        J8 (1 : Int32))))
  else
    K139 x5 h
def fX1_takeFrom_l36 (a1 : Nat) (K139 : Int32 → AH → Option AH) (x2 : Int32) (x4 : Int32) : Nat → Int32 → Int32 → AH → Option AH
  | 0, _, _, _ => none
  | n + 1, x5, x6, h => fX1_takeFrom_l36b a1 (fX1_takeFrom_l36 a1 K139 x2 x4 n) K139 x2 x4 x5 x6 h
theorem sX1_takeFrom_l36b (a1 : Nat) (ia1 : isA a1) {rec : Int32 → Int32 → AH → Option AH} {K139 : Int32 → AH → Option AH} {x2 : Int32} {x4 : Int32} (hR : ∀ (x5 : Int32) (x6 : Int32) (h : AH), Sim RX1 cX1_takeFrom 8 none 4 (Option.map oV) (rec x5 x6 h) 36 [(0, .ref 71), (1, .ref a1), (2, .int x2), (3, .ref 3), (4, .int x4), (5, .int x5), (6, .int x6)] [] h) (hK139 : ∀ (y5 : Int32) (g : AH), Sim RX1 cX1_takeFrom 8 none 4 (Option.map oV) (K139 y5 g) 139 [(0, .ref 71), (1, .ref a1), (2, .int x2), (3, .ref 3), (4, .int x4), (5, .int y5)] [] g) : ∀ (x5 : Int32) (x6 : Int32) (h : AH), Sim RX1 cX1_takeFrom 8 none 4 (Option.map oV) (fX1_takeFrom_l36b a1 rec K139 x2 x4 x5 x6 h) 36 [(0, .ref 71), (1, .ref a1), (2, .int x2), (3, .ref 3), (4, .int x4), (5, .int x5), (6, .int x6)] [] h := by
  intro x5 x6 h
  unfold fX1_takeFrom_l36b
  refine sim_iload 6 rfl dX1_takeFrom_36 ?_
  refine sim_aload_n 0 rfl dX1_takeFrom_38 ?_
  refine sim_getI flX1_25 rfl rfl dX1_takeFrom_39 ?_
  refine sim_icmp_ge (tgt := 139) dX1_takeFrom_42 (by decide) (fun c5 => ?_) (fun c5 => ?_)
  · refine sim_sub [0, 1, 2, 3, 4, 5] rfl ?_
    exact hK139 x5 h
  · refine sim_aload_n 1 rfl dX1_takeFrom_45 ?_
    refine sim_iload 4 rfl dX1_takeFrom_46 ?_
    refine sim_aload_n 0 rfl dX1_takeFrom_48 ?_
    refine sim_getI flX1_25 rfl rfl dX1_takeFrom_49 ?_
    refine sim_imul dX1_takeFrom_52 ?_
    refine sim_iload 6 rfl dX1_takeFrom_53 ?_
    refine sim_iadd dX1_takeFrom_55 ?_
    refine sim_cS (As := [.ref a1, .int ((x4 * (h.1 71 4)) + x6)]) (st := []) (r := (some (.int (fX11_at a1 ((x4 * (h.1 71 4)) + x6) h)))) (h1 := h) (okX11_at a1 ia1 ((x4 * (h.1 71 4)) + x6) h) (fun _ => rfl) mlX1_41 mtX11_at rfl (Nat.le_of_ble_eq_true rfl) rfl (Nat.le_of_ble_eq_true rfl) dX1_takeFrom_56 ?_
    refine sim_nmI (fun v6 => ?_)
    refine sim_istore (L' := [(7, .int v6), (0, .ref 71), (1, .ref a1), (2, .int x2), (3, .ref 3), (4, .int x4), (5, .int x5), (6, .int x6)]) rfl (by decide) dX1_takeFrom_59 ?_
    refine sim_aload_n 1 rfl dX1_takeFrom_61 ?_
    refine sim_aload_n 1 rfl dX1_takeFrom_62 ?_
    refine sim_getI flX1_28 rfl rfl dX1_takeFrom_63 ?_
    refine sim_letJ (fun J8 => ∀ (w7 : Int32), Sim RX1 cX1_takeFrom 8 none 4 (Option.map oV) (J8 w7) 83 [(0, .ref 71), (1, .ref a1), (2, .int x2), (3, .ref 3), (4, .int x4), (5, .int x5), (6, .int x6), (7, .int v6)] [.int w7, .ref 71] h) (fun w7 => ?_) (fun J8 hJ8 => ?_)
    · refine sim_guard (fun c9 => ?_)
      refine sim_putI fpX1_28 (nar_b c9) (fit_b c9) rfl rfl dX1_takeFrom_83 ?_
      refine sim_nmH (fun g10 => ?_)
      refine sim_aload_n 0 rfl dX1_takeFrom_86 ?_
      refine sim_getR flX1_18 rfl rfl dX1_takeFrom_87 ?_
      refine sim_iload 6 rfl dX1_takeFrom_90 ?_
      refine sim_iload 7 rfl dX1_takeFrom_92 ?_
      refine sim_cS (As := [.ref 74, .int x6, .int v6]) (st := []) (r := none) (h1 := (fX11_put 74 x6 v6 g10)) (okX11_put 74 rfl x6 v6 g10) (fun _ => rfl) mlX1_49 mtX11_put rfl (Nat.le_of_ble_eq_true rfl) rfl (Nat.le_of_ble_eq_true rfl) dX1_takeFrom_94 ?_
      refine sim_nmH (fun g11 => ?_)
      refine sim_aload_n 0 rfl dX1_takeFrom_97 ?_
      refine sim_getR flX1_9 rfl rfl dX1_takeFrom_98 ?_
      refine sim_iload 4 rfl dX1_takeFrom_101 ?_
      refine sim_bipush (v := 20) (by decide) dX1_takeFrom_103 ?_
      refine sim_imul dX1_takeFrom_105 ?_
      refine sim_iload 6 rfl dX1_takeFrom_106 ?_
      refine sim_iadd dX1_takeFrom_108 ?_
      refine sim_iload 7 rfl dX1_takeFrom_109 ?_
      refine sim_cS (As := [.ref 72, .int ((x4 * (20 : Int32)) + x6), .int v6]) (st := []) (r := none) (h1 := (fX11_put 72 ((x4 * (20 : Int32)) + x6) v6 g11)) (okX11_put 72 rfl ((x4 * (20 : Int32)) + x6) v6 g11) (fun _ => rfl) mlX1_49 mtX11_put rfl (Nat.le_of_ble_eq_true rfl) rfl (Nat.le_of_ble_eq_true rfl) dX1_takeFrom_111 ?_
      refine sim_nmH (fun g12 => ?_)
      refine sim_iload 7 rfl dX1_takeFrom_114 ?_
      refine sim_aload_n 3 rfl dX1_takeFrom_116 ?_
      refine sim_iload 6 rfl dX1_takeFrom_117 ?_
      refine sim_aload_n 0 rfl dX1_takeFrom_119 ?_
      refine sim_getR flX1_18 rfl rfl dX1_takeFrom_120 ?_
      refine sim_cV (As := [.int x6, .ref 74]) (st := [.int v6]) (r := (some (.int (fX9_made x6 74 g12)))) (h1 := g12) (okX9_made x6 74 rfl g12) (fun _ => rfl) mlX1_53 mtX9_made rfl rfl rfl rfl (Nat.le_of_ble_eq_true rfl) rfl (Nat.le_of_ble_eq_true rfl) dX1_takeFrom_123 ?_
      refine sim_icmp_eq (tgt := 133) dX1_takeFrom_126 (by decide) (fun c13 => ?_) (fun c13 => ?_)
      · refine sim_iinc (v := x6 + 1) (L' := [(6, .int (x6 + 1)), (0, .ref 71), (1, .ref a1), (2, .int x2), (3, .ref 3), (4, .int x4), (5, .int x5), (7, .int v6)]) 6 rfl rfl rfl (by decide) dX1_takeFrom_133 ?_
        refine sim_goto (tgt := 36) dX1_takeFrom_136 (by decide) ?_
        refine sim_sub [1, 2, 3, 4, 5, 6, 0] rfl ?_
        exact hR x5 (x6 + 1) g12
      · refine sim_iload 6 rfl dX1_takeFrom_129 ?_
        refine sim_istore (L' := [(5, .int x6), (0, .ref 71), (1, .ref a1), (2, .int x2), (3, .ref 3), (4, .int x4), (6, .int x6), (7, .int v6)]) rfl (by decide) dX1_takeFrom_131 ?_
        refine sim_iinc (v := x6 + 1) (L' := [(6, .int (x6 + 1)), (5, .int x6), (0, .ref 71), (1, .ref a1), (2, .int x2), (3, .ref 3), (4, .int x4), (7, .int v6)]) 6 rfl rfl rfl (by decide) dX1_takeFrom_133 ?_
        refine sim_goto (tgt := 36) dX1_takeFrom_136 (by decide) ?_
        refine sim_sub [2, 3, 4, 5, 6, 1, 0] rfl ?_
        exact hR x6 (x6 + 1) g12
    refine sim_letJ (fun J14 => Sim RX1 cX1_takeFrom 8 none 4 (Option.map oV) (J14) 82 [(0, .ref 71), (1, .ref a1), (2, .int x2), (3, .ref 3), (4, .int x4), (5, .int x5), (6, .int x6), (7, .int v6)] [.ref 71] h) (?_) (fun J14 hJ14 => ?_)
    · refine sim_iconst (v := 0) (by decide) dX1_takeFrom_82 ?_
      exact hJ8 (0 : Int32)
    refine sim_if_eq (tgt := 82) dX1_takeFrom_66 (by decide) (fun c15 => ?_) (fun c15 => ?_)
    · refine sim_sub [1, 2, 3, 4, 5, 6, 7, 0] rfl ?_
      exact hJ14
    · refine sim_aload_n 4 rfl dX1_takeFrom_69 ?_
      refine sim_iload 0 rfl dX1_takeFrom_70 ?_
      refine sim_cV (As := [.int v6]) (st := [.ref 71]) (r := (some (.int (fX9_isClaim v6 h)))) (h1 := h) (okX9_isClaim v6 h) (fun _ => rfl) mlX1_45 mtX9_isClaim rfl rfl rfl rfl (Nat.le_of_ble_eq_true rfl) rfl (Nat.le_of_ble_eq_true rfl) dX1_takeFrom_72 ?_
      refine sim_if_eq (tgt := 82) dX1_takeFrom_75 (by decide) (fun c16 => ?_) (fun c16 => ?_)
      · refine sim_sub [1, 2, 3, 4, 5, 6, 7, 0] rfl ?_
        exact hJ14
      · refine sim_iconst (v := 1) (by decide) dX1_takeFrom_78 ?_
        refine sim_goto (tgt := 83) dX1_takeFrom_79 (by decide) ?_
        refine sim_sub [1, 2, 3, 4, 5, 6, 7, 0] rfl ?_
        exact hJ8 (1 : Int32)
theorem sX1_takeFrom_l36 (a1 : Nat) (ia1 : isA a1) {K139 : Int32 → AH → Option AH} {x2 : Int32} {x4 : Int32} (hK139 : ∀ (y5 : Int32) (g : AH), Sim RX1 cX1_takeFrom 8 none 4 (Option.map oV) (K139 y5 g) 139 [(0, .ref 71), (1, .ref a1), (2, .int x2), (3, .ref 3), (4, .int x4), (5, .int y5)] [] g) : ∀ (n : Nat) (x5 : Int32) (x6 : Int32) (h : AH), Sim RX1 cX1_takeFrom 8 none 4 (Option.map oV) (fX1_takeFrom_l36 a1 K139 x2 x4 n x5 x6 h) 36 [(0, .ref 71), (1, .ref a1), (2, .int x2), (3, .ref 3), (4, .int x4), (5, .int x5), (6, .int x6)] [] h := by
  intro n
  induction n with
  | zero => intro x5 x6 h; exact sim_none
  | succ n ih => intro x5 x6 h; exact sX1_takeFrom_l36b a1 ia1 ih hK139 x5 x6 h
def fX1_takeFrom_l24b (a1 : Nat) (rec : Int32 → AH → Option AH) (x2 : Int32) (x4 : Int32) (h : AH) : Option AH :=
  if x4 < x2 then
    fX1_takeFrom_l36 a1 (fun (y17 : Int32) (g18 : AH) =>
      letT (fX11_put 73 x4 y17 g18) (fun g19 =>
      rec (x4 + 1) g19)) x2 x4 fuel0 (-1 : Int32) (0 : Int32) h
  else
    some h
def fX1_takeFrom_l24 (a1 : Nat) (x2 : Int32) : Nat → Int32 → AH → Option AH
  | 0, _, _ => none
  | n + 1, x4, h => fX1_takeFrom_l24b a1 (fX1_takeFrom_l24 a1 x2 n) x2 x4 h
theorem sX1_takeFrom_l24b (a1 : Nat) (ia1 : isA a1) {rec : Int32 → AH → Option AH} {x2 : Int32} (hR : ∀ (x4 : Int32) (h : AH), Sim RX1 cX1_takeFrom 8 none 4 (Option.map oV) (rec x4 h) 24 [(0, .ref 71), (1, .ref a1), (2, .int x2), (3, .ref 3), (4, .int x4)] [] h) : ∀ (x4 : Int32) (h : AH), Sim RX1 cX1_takeFrom 8 none 4 (Option.map oV) (fX1_takeFrom_l24b a1 rec x2 x4 h) 24 [(0, .ref 71), (1, .ref a1), (2, .int x2), (3, .ref 3), (4, .int x4)] [] h := by
  intro x4 h
  unfold fX1_takeFrom_l24b
  refine sim_iload 4 rfl dX1_takeFrom_24 ?_
  refine sim_iload_n 2 rfl dX1_takeFrom_26 ?_
  refine sim_icmp_ge (tgt := 156) dX1_takeFrom_27 (by decide) (fun c4 => ?_) (fun c4 => ?_)
  · exact sim_vret rfl rfl dX1_takeFrom_156
  · refine sim_iconst (v := -1) (by decide) dX1_takeFrom_30 ?_
    refine sim_istore (L' := [(5, .int (-1 : Int32)), (0, .ref 71), (1, .ref a1), (2, .int x2), (3, .ref 3), (4, .int x4)]) rfl (by decide) dX1_takeFrom_31 ?_
    refine sim_iconst (v := 0) (by decide) dX1_takeFrom_33 ?_
    refine sim_istore (L' := [(6, .int (0 : Int32)), (5, .int (-1 : Int32)), (0, .ref 71), (1, .ref a1), (2, .int x2), (3, .ref 3), (4, .int x4)]) rfl (by decide) dX1_takeFrom_34 ?_
    refine sim_sub [2, 3, 4, 5, 6, 1, 0] rfl ?_
    refine sX1_takeFrom_l36 a1 ia1 (fun y17 g18 => ?_) _ (-1 : Int32) (0 : Int32) h
    · refine sim_aload_n 0 rfl dX1_takeFrom_139 ?_
      refine sim_getR flX1_15 rfl rfl dX1_takeFrom_140 ?_
      refine sim_iload 4 rfl dX1_takeFrom_143 ?_
      refine sim_iload 5 rfl dX1_takeFrom_145 ?_
      refine sim_cS (As := [.ref 73, .int x4, .int y17]) (st := []) (r := none) (h1 := (fX11_put 73 x4 y17 g18)) (okX11_put 73 rfl x4 y17 g18) (fun _ => rfl) mlX1_49 mtX11_put rfl (Nat.le_of_ble_eq_true rfl) rfl (Nat.le_of_ble_eq_true rfl) dX1_takeFrom_147 ?_
      refine sim_nmH (fun g19 => ?_)
      refine sim_iinc (v := x4 + 1) (L' := [(4, .int (x4 + 1)), (0, .ref 71), (1, .ref a1), (2, .int x2), (3, .ref 3), (5, .int y17)]) 4 rfl rfl rfl (by decide) dX1_takeFrom_150 ?_
      refine sim_goto (tgt := 24) dX1_takeFrom_153 (by decide) ?_
      refine sim_sub [1, 2, 3, 4, 0] rfl ?_
      exact hR (x4 + 1) g19
theorem sX1_takeFrom_l24 (a1 : Nat) (ia1 : isA a1) {x2 : Int32} : ∀ (n : Nat) (x4 : Int32) (h : AH), Sim RX1 cX1_takeFrom 8 none 4 (Option.map oV) (fX1_takeFrom_l24 a1 x2 n x4 h) 24 [(0, .ref 71), (1, .ref a1), (2, .int x2), (3, .ref 3), (4, .int x4)] [] h := by
  intro n
  induction n with
  | zero => intro x4 h; exact sim_none
  | succ n ih => intro x4 h; exact sX1_takeFrom_l24b a1 ia1 ih x4 h
def fX1_takeFrom (a1 : Nat) (p2 : Int32) (h : AH) : Option AH :=
  letT (sI h 71 3 p2) (fun g1 =>
  letT (sI g1 71 4 (g1.1 6 0)) (fun g2 =>
  letT (sI g2 71 5 (1 : Int32)) (fun g3 =>
  fX1_takeFrom_l24 a1 p2 fuel0 (0 : Int32) g3)))
theorem sX1_takeFrom (a1 : Nat) (ia1 : isA a1) (p2 : Int32) (h : AH) : Sim RX1 cX1_takeFrom 8 none 4 (Option.map oV) (fX1_takeFrom a1 p2 h) 0 [(0, .ref 71), (1, .ref a1), (2, .int p2), (3, .ref 3)] [] h := by
  unfold fX1_takeFrom
  refine sim_aload_n 0 rfl dX1_takeFrom_0 ?_
  refine sim_iload_n 2 rfl dX1_takeFrom_1 ?_
  refine sim_putI fpX1_21 rfl rfl rfl rfl dX1_takeFrom_2 ?_
  refine sim_nmH (fun g1 => ?_)
  refine sim_aload_n 0 rfl dX1_takeFrom_5 ?_
  refine sim_aload_n 3 rfl dX1_takeFrom_6 ?_
  refine sim_getR flX1_32 rfl rfl dX1_takeFrom_7 ?_
  refine sim_getI flX1_38 rfl rfl dX1_takeFrom_10 ?_
  refine sim_putI fpX1_25 rfl rfl rfl rfl dX1_takeFrom_13 ?_
  refine sim_nmH (fun g2 => ?_)
  refine sim_aload_n 0 rfl dX1_takeFrom_16 ?_
  refine sim_iconst (v := 1) (by decide) dX1_takeFrom_17 ?_
  refine sim_putI fpX1_28 rfl rfl rfl rfl dX1_takeFrom_18 ?_
  refine sim_nmH (fun g3 => ?_)
  refine sim_iconst (v := 0) (by decide) dX1_takeFrom_21 ?_
  refine sim_istore (L' := [(4, .int (0 : Int32)), (0, .ref 71), (1, .ref a1), (2, .int p2), (3, .ref 3)]) rfl (by decide) dX1_takeFrom_22 ?_
  refine sim_sub [1, 2, 3, 4, 0] rfl ?_
  refine sX1_takeFrom_l24 a1 ia1 _ (0 : Int32) g3
theorem okX1_takeFrom (a1 : Nat) (ia1 : isA a1) (p2 : Int32) (h : AH) (b : AH) (e : fX1_takeFrom a1 p2 h = some b) : Ok yX1_takeFrom cX1_takeFrom 8 none 4 [.ref 71, .ref a1, .int p2, .ref 3] h (none, b) := ok_of (sX1_takeFrom a1 ia1 p2 h) (by rw [e]; rfl) (by decide +kernel) (Nat.le_of_ble_eq_true rfl)
def fX1_firstOther_l2b (a2 : Nat) (rec : Int32 → Option Int32) (x1 : Int32) (h : AH) (x3 : Int32) : Option Int32 :=
  if x3 < (h.1 71 4) then
    if (fX11_at 72 ((x1 * (20 : Int32)) + x3) h) = (fX11_at a2 x3 h) then
      rec (x3 + 1)
    else
      some x3
  else
    some (h.1 71 4)
def fX1_firstOther_l2 (a2 : Nat) (x1 : Int32) (h : AH) : Nat → Int32 → Option Int32
  | 0, _ => none
  | n + 1, x3 => fX1_firstOther_l2b a2 (fX1_firstOther_l2 a2 x1 h n) x1 h x3
theorem sX1_firstOther_l2b (a2 : Nat) (ia2 : isA a2) {rec : Int32 → Option Int32} {x1 : Int32} {h : AH} (hR : ∀ (x3 : Int32), Sim RX1 cX1_firstOther 4 (some .int) 2 (Option.map (pI h)) (rec x3) 2 [(0, .ref 71), (1, .int x1), (2, .ref a2), (3, .int x3)] [] h) : ∀ (x3 : Int32), Sim RX1 cX1_firstOther 4 (some .int) 2 (Option.map (pI h)) (fX1_firstOther_l2b a2 rec x1 h x3) 2 [(0, .ref 71), (1, .int x1), (2, .ref a2), (3, .int x3)] [] h := by
  intro x3
  unfold fX1_firstOther_l2b
  refine sim_iload_n 3 rfl dX1_firstOther_2 ?_
  refine sim_aload_n 0 rfl dX1_firstOther_3 ?_
  refine sim_getI flX1_25 rfl rfl dX1_firstOther_4 ?_
  refine sim_icmp_ge (tgt := 39) dX1_firstOther_7 (by decide) (fun c1 => ?_) (fun c1 => ?_)
  · refine sim_aload_n 0 rfl dX1_firstOther_39 ?_
    refine sim_getI flX1_25 rfl rfl dX1_firstOther_40 ?_
    exact sim_iret rfl rfl dX1_firstOther_43
  · refine sim_aload_n 0 rfl dX1_firstOther_10 ?_
    refine sim_getR flX1_9 rfl rfl dX1_firstOther_11 ?_
    refine sim_iload_n 1 rfl dX1_firstOther_14 ?_
    refine sim_bipush (v := 20) (by decide) dX1_firstOther_15 ?_
    refine sim_imul dX1_firstOther_17 ?_
    refine sim_iload_n 3 rfl dX1_firstOther_18 ?_
    refine sim_iadd dX1_firstOther_19 ?_
    refine sim_cS (As := [.ref 72, .int ((x1 * (20 : Int32)) + x3)]) (st := []) (r := (some (.int (fX11_at 72 ((x1 * (20 : Int32)) + x3) h)))) (h1 := h) (okX11_at 72 rfl ((x1 * (20 : Int32)) + x3) h) (fun _ => rfl) mlX1_41 mtX11_at rfl (Nat.le_of_ble_eq_true rfl) rfl (Nat.le_of_ble_eq_true rfl) dX1_firstOther_20 ?_
    refine sim_aload_n 2 rfl dX1_firstOther_23 ?_
    refine sim_iload_n 3 rfl dX1_firstOther_24 ?_
    refine sim_cS (As := [.ref a2, .int x3]) (st := [.int (fX11_at 72 ((x1 * (20 : Int32)) + x3) h)]) (r := (some (.int (fX11_at a2 x3 h)))) (h1 := h) (okX11_at a2 ia2 x3 h) (fun _ => rfl) mlX1_41 mtX11_at rfl (Nat.le_of_ble_eq_true rfl) rfl (Nat.le_of_ble_eq_true rfl) dX1_firstOther_25 ?_
    refine sim_icmp_eq (tgt := 33) dX1_firstOther_28 (by decide) (fun c2 => ?_) (fun c2 => ?_)
    · refine sim_iinc (v := x3 + 1) (L' := [(3, .int (x3 + 1)), (0, .ref 71), (1, .int x1), (2, .ref a2)]) 3 rfl rfl rfl (by decide) dX1_firstOther_33 ?_
      refine sim_goto (tgt := 2) dX1_firstOther_36 (by decide) ?_
      refine sim_sub [1, 2, 3, 0] rfl ?_
      exact hR (x3 + 1)
    · refine sim_iload_n 3 rfl dX1_firstOther_31 ?_
      exact sim_iret rfl rfl dX1_firstOther_32
theorem sX1_firstOther_l2 (a2 : Nat) (ia2 : isA a2) {x1 : Int32} {h : AH} : ∀ (n : Nat) (x3 : Int32), Sim RX1 cX1_firstOther 4 (some .int) 2 (Option.map (pI h)) (fX1_firstOther_l2 a2 x1 h n x3) 2 [(0, .ref 71), (1, .int x1), (2, .ref a2), (3, .int x3)] [] h := by
  intro n
  induction n with
  | zero => intro x3; exact sim_none
  | succ n ih => intro x3; exact sX1_firstOther_l2b a2 ia2 ih x3
def fX1_firstOther (p1 : Int32) (a2 : Nat) (h : AH) : Option Int32 :=
  fX1_firstOther_l2 a2 p1 h fuel0 (0 : Int32)
theorem sX1_firstOther (a2 : Nat) (ia2 : isA a2) (p1 : Int32) (h : AH) : Sim RX1 cX1_firstOther 4 (some .int) 2 (Option.map (pI h)) (fX1_firstOther p1 a2 h) 0 [(0, .ref 71), (1, .int p1), (2, .ref a2)] [] h := by
  unfold fX1_firstOther
  refine sim_iconst (v := 0) (by decide) dX1_firstOther_0 ?_
  refine sim_istore_n (L' := [(3, .int (0 : Int32)), (0, .ref 71), (1, .int p1), (2, .ref a2)]) rfl (by decide) dX1_firstOther_1 ?_
  refine sim_sub [1, 2, 3, 0] rfl ?_
  refine sX1_firstOther_l2 a2 ia2 _ (0 : Int32)
theorem okX1_firstOther (p1 : Int32) (a2 : Nat) (ia2 : isA a2) (h : AH) (b : Int32) (e : fX1_firstOther p1 a2 h = some b) : Ok yX1_firstOther cX1_firstOther 4 (some .int) 2 [.ref 71, .int p1, .ref a2] h (some (.int b), h) := ok_of (sX1_firstOther a2 ia2 p1 h) (by rw [e]; rfl) (by decide +kernel) (Nat.le_of_ble_eq_true rfl)
def fX1_allComeFrom_l7b (a1 : Nat) (rec : Int32 → Int32 → Option Int32) (h : AH) (x2 : Int32) (x3 : Int32) : Option Int32 :=
  if x3 < (h.1 71 3) then
    if x2 = 0 then
      if x2 = 0 ∨ x2 = 1 then some x2 else none
    else
      (fX1_firstOther x3 a1 h).bind (fun b5 =>
      if b5 = (h.1 71 4) then
        rec (1 : Int32) (x3 + 1)
      else
        if b5 < (fX11_at 73 x3 h) then
          rec (0 : Int32) (x3 + 1)
        else
          rec (1 : Int32) (x3 + 1))
  else
    if x2 = 0 ∨ x2 = 1 then some x2 else none
def fX1_allComeFrom_l7 (a1 : Nat) (h : AH) : Nat → Int32 → Int32 → Option Int32
  | 0, _, _ => none
  | n + 1, x2, x3 => fX1_allComeFrom_l7b a1 (fX1_allComeFrom_l7 a1 h n) h x2 x3
theorem sX1_allComeFrom_l7b (a1 : Nat) (ia1 : isA a1) {rec : Int32 → Int32 → Option Int32} {h : AH} (hR : ∀ (x2 : Int32) (x3 : Int32), Sim RX1 cX1_allComeFrom 5 (some .boolean) 3 (Option.map (pI h)) (rec x2 x3) 7 [(0, .ref 71), (1, .ref a1), (2, .int x2), (3, .int x3)] [] h) : ∀ (x2 : Int32) (x3 : Int32), Sim RX1 cX1_allComeFrom 5 (some .boolean) 3 (Option.map (pI h)) (fX1_allComeFrom_l7b a1 rec h x2 x3) 7 [(0, .ref 71), (1, .ref a1), (2, .int x2), (3, .int x3)] [] h := by
  intro x2 x3
  unfold fX1_allComeFrom_l7b
  refine sim_iload_n 3 rfl dX1_allComeFrom_7 ?_
  refine sim_aload_n 0 rfl dX1_allComeFrom_8 ?_
  refine sim_getI flX1_21 rfl rfl dX1_allComeFrom_9 ?_
  refine sim_icmp_ge (tgt := 61) dX1_allComeFrom_12 (by decide) (fun c1 => ?_) (fun c1 => ?_)
  · refine sim_iload_n 2 rfl dX1_allComeFrom_61 ?_
    refine sim_guard (fun c2 => ?_)
    exact sim_zret rfl (nar_b c2) rfl dX1_allComeFrom_62
  · refine sim_iload_n 2 rfl dX1_allComeFrom_15 ?_
    refine sim_if_eq (tgt := 61) dX1_allComeFrom_16 (by decide) (fun c3 => ?_) (fun c3 => ?_)
    · refine sim_iload_n 2 rfl dX1_allComeFrom_61 ?_
      refine sim_guard (fun c4 => ?_)
      exact sim_zret rfl (nar_b c4) rfl dX1_allComeFrom_62
    · refine sim_aload_n 0 rfl dX1_allComeFrom_19 ?_
      refine sim_iload_n 3 rfl dX1_allComeFrom_20 ?_
      refine sim_aload_n 1 rfl dX1_allComeFrom_21 ?_
      refine sim_bind (fun b5 e6 => ?_)
      refine sim_cV (As := [.int x3, .ref a1]) (st := []) (r := (some (.int b5))) (h1 := h) (okX1_firstOther x3 a1 ia1 h b5 e6) (fun _ => rfl) mlX1_57 mtX1_firstOther rfl rfl rfl rfl (Nat.le_of_ble_eq_true rfl) rfl (Nat.le_of_ble_eq_true rfl) dX1_allComeFrom_22 ?_
      refine sim_istore (L' := [(4, .int b5), (0, .ref 71), (1, .ref a1), (2, .int x2), (3, .int x3)]) rfl (by decide) dX1_allComeFrom_25 ?_
      refine sim_iload 0 rfl dX1_allComeFrom_27 ?_
      refine sim_aload_n 1 rfl dX1_allComeFrom_29 ?_
      refine sim_getI flX1_25 rfl rfl dX1_allComeFrom_30 ?_
      refine sim_icmp_eq (tgt := 49) dX1_allComeFrom_33 (by decide) (fun c7 => ?_) (fun c7 => ?_)
      · refine sim_iconst (v := 1) (by decide) dX1_allComeFrom_49 ?_
        refine sim_goto (tgt := 54) dX1_allComeFrom_50 (by decide) ?_
        refine sim_istore_n (L' := [(2, .int (1 : Int32)), (4, .int b5), (0, .ref 71), (1, .ref a1), (3, .int x3)]) rfl (by decide) dX1_allComeFrom_54 ?_
        refine sim_iinc (v := x3 + 1) (L' := [(3, .int (x3 + 1)), (2, .int (1 : Int32)), (4, .int b5), (0, .ref 71), (1, .ref a1)]) 4 rfl rfl rfl (by decide) dX1_allComeFrom_55 ?_
        refine sim_goto (tgt := 7) dX1_allComeFrom_58 (by decide) ?_
        refine sim_sub [3, 4, 1, 0] rfl ?_
        exact hR (1 : Int32) (x3 + 1)
      · refine sim_iload 0 rfl dX1_allComeFrom_36 ?_
        refine sim_aload_n 1 rfl dX1_allComeFrom_38 ?_
        refine sim_getR flX1_15 rfl rfl dX1_allComeFrom_39 ?_
        refine sim_iload_n 4 rfl dX1_allComeFrom_42 ?_
        refine sim_cS (As := [.ref 73, .int x3]) (st := [.int b5]) (r := (some (.int (fX11_at 73 x3 h)))) (h1 := h) (okX11_at 73 rfl x3 h) (fun _ => rfl) mlX1_41 mtX11_at rfl (Nat.le_of_ble_eq_true rfl) rfl (Nat.le_of_ble_eq_true rfl) dX1_allComeFrom_43 ?_
        refine sim_icmp_lt (tgt := 53) dX1_allComeFrom_46 (by decide) (fun c8 => ?_) (fun c8 => ?_)
        · refine sim_iconst (v := 0) (by decide) dX1_allComeFrom_53 ?_
          refine sim_istore_n (L' := [(2, .int (0 : Int32)), (4, .int b5), (0, .ref 71), (1, .ref a1), (3, .int x3)]) rfl (by decide) dX1_allComeFrom_54 ?_
          refine sim_iinc (v := x3 + 1) (L' := [(3, .int (x3 + 1)), (2, .int (0 : Int32)), (4, .int b5), (0, .ref 71), (1, .ref a1)]) 4 rfl rfl rfl (by decide) dX1_allComeFrom_55 ?_
          refine sim_goto (tgt := 7) dX1_allComeFrom_58 (by decide) ?_
          refine sim_sub [3, 4, 1, 0] rfl ?_
          exact hR (0 : Int32) (x3 + 1)
        · refine sim_iconst (v := 1) (by decide) dX1_allComeFrom_49 ?_
          refine sim_goto (tgt := 54) dX1_allComeFrom_50 (by decide) ?_
          refine sim_istore_n (L' := [(2, .int (1 : Int32)), (4, .int b5), (0, .ref 71), (1, .ref a1), (3, .int x3)]) rfl (by decide) dX1_allComeFrom_54 ?_
          refine sim_iinc (v := x3 + 1) (L' := [(3, .int (x3 + 1)), (2, .int (1 : Int32)), (4, .int b5), (0, .ref 71), (1, .ref a1)]) 4 rfl rfl rfl (by decide) dX1_allComeFrom_55 ?_
          refine sim_goto (tgt := 7) dX1_allComeFrom_58 (by decide) ?_
          refine sim_sub [3, 4, 1, 0] rfl ?_
          exact hR (1 : Int32) (x3 + 1)
theorem sX1_allComeFrom_l7 (a1 : Nat) (ia1 : isA a1) {h : AH} : ∀ (n : Nat) (x2 : Int32) (x3 : Int32), Sim RX1 cX1_allComeFrom 5 (some .boolean) 3 (Option.map (pI h)) (fX1_allComeFrom_l7 a1 h n x2 x3) 7 [(0, .ref 71), (1, .ref a1), (2, .int x2), (3, .int x3)] [] h := by
  intro n
  induction n with
  | zero => intro x2 x3; exact sim_none
  | succ n ih => intro x2 x3; exact sX1_allComeFrom_l7b a1 ia1 ih x2 x3
def fX1_allComeFrom (a1 : Nat) (h : AH) : Option Int32 :=
  fX1_allComeFrom_l7 a1 h fuel0 (h.1 71 5) (0 : Int32)
theorem sX1_allComeFrom (a1 : Nat) (ia1 : isA a1) (h : AH) : Sim RX1 cX1_allComeFrom 5 (some .boolean) 3 (Option.map (pI h)) (fX1_allComeFrom a1 h) 0 [(0, .ref 71), (1, .ref a1)] [] h := by
  unfold fX1_allComeFrom
  refine sim_aload_n 0 rfl dX1_allComeFrom_0 ?_
  refine sim_getI flX1_28 rfl rfl dX1_allComeFrom_1 ?_
  refine sim_istore_n (L' := [(2, .int (h.1 71 5)), (0, .ref 71), (1, .ref a1)]) rfl (by decide) dX1_allComeFrom_4 ?_
  refine sim_iconst (v := 0) (by decide) dX1_allComeFrom_5 ?_
  refine sim_istore_n (L' := [(3, .int (0 : Int32)), (2, .int (h.1 71 5)), (0, .ref 71), (1, .ref a1)]) rfl (by decide) dX1_allComeFrom_6 ?_
  refine sim_sub [2, 3, 1, 0] rfl ?_
  refine sX1_allComeFrom_l7 a1 ia1 _ (h.1 71 5) (0 : Int32)
theorem okX1_allComeFrom (a1 : Nat) (ia1 : isA a1) (h : AH) (b : Int32) (e : fX1_allComeFrom a1 h = some b) : Ok yX1_allComeFrom cX1_allComeFrom 5 (some .boolean) 3 [.ref 71, .ref a1] h (some (.int b), h) := ok_of (sX1_allComeFrom a1 ia1 h) (by rw [e]; rfl) (by decide +kernel) (Nat.le_of_ble_eq_true rfl)
def fX11_allCopiesCome (p1 : Int32) (p2 : Int32) (h : AH) : Option (Int32 × AH) :=
  (fX11_copyRow 49 50 h).bind (fun b1 =>
  (fX9_slipIn p1 p2 50 b1).bind (fun b3 =>
  (fX1_allComeFrom 50 b3).bind (fun b5 =>
  if b5 = 0 ∨ b5 = 1 then some (b5, b3) else none)))
theorem sX11_allCopiesCome (p1 : Int32) (p2 : Int32) (h : AH) : Sim RX11 cX11_allCopiesCome 3 (some .boolean) 6 (Option.map oI) (fX11_allCopiesCome p1 p2 h) 0 [(0, .ref 0), (1, .int p1), (2, .int p2)] [] h := by
  unfold fX11_allCopiesCome
  refine sim_aload_n 0 rfl dX11_allCopiesCome_0 ?_
  refine sim_getR flX11_53 rfl rfl dX11_allCopiesCome_1 ?_
  refine sim_aload_n 0 rfl dX11_allCopiesCome_4 ?_
  refine sim_getR flX11_57 rfl rfl dX11_allCopiesCome_5 ?_
  refine sim_bind (fun b1 e2 => ?_)
  refine sim_cS (As := [.ref 49, .ref 50]) (st := []) (r := none) (h1 := b1) (okX11_copyRow 49 rfl 50 rfl h b1 e2) (fun _ => rfl) mlX11_203 mtX11_copyRow rfl (Nat.le_of_ble_eq_true rfl) rfl (Nat.le_of_ble_eq_true rfl) dX11_allCopiesCome_8 ?_
  refine sim_aload_n 0 rfl dX11_allCopiesCome_11 ?_
  refine sim_getR flX11_19 rfl rfl dX11_allCopiesCome_12 ?_
  refine sim_iload_n 1 rfl dX11_allCopiesCome_15 ?_
  refine sim_iload_n 2 rfl dX11_allCopiesCome_16 ?_
  refine sim_aload_n 0 rfl dX11_allCopiesCome_17 ?_
  refine sim_getR flX11_57 rfl rfl dX11_allCopiesCome_18 ?_
  refine sim_bind (fun b3 e4 => ?_)
  refine sim_cV (As := [.int p1, .int p2, .ref 50]) (st := []) (r := none) (h1 := b3) (okX9_slipIn p1 p2 50 rfl b1 b3 e4) (fun _ => rfl) mlX11_207 mtX9_slipIn rfl rfl rfl rfl (Nat.le_of_ble_eq_true rfl) rfl (Nat.le_of_ble_eq_true rfl) dX11_allCopiesCome_21 ?_
  refine sim_aload_n 0 rfl dX11_allCopiesCome_24 ?_
  refine sim_getR flX11_97 rfl rfl dX11_allCopiesCome_25 ?_
  refine sim_aload_n 0 rfl dX11_allCopiesCome_28 ?_
  refine sim_getR flX11_57 rfl rfl dX11_allCopiesCome_29 ?_
  refine sim_bind (fun b5 e6 => ?_)
  refine sim_cV (As := [.ref 50]) (st := []) (r := (some (.int b5))) (h1 := b3) (okX1_allComeFrom 50 rfl b3 b5 e6) (fun _ => rfl) mlX11_377 mtX1_allComeFrom rfl rfl rfl rfl (Nat.le_of_ble_eq_true rfl) rfl (Nat.le_of_ble_eq_true rfl) dX11_allCopiesCome_32 ?_
  refine sim_guard (fun c7 => ?_)
  exact sim_zret rfl (nar_b c7) rfl dX11_allCopiesCome_35
theorem okX11_allCopiesCome (p1 : Int32) (p2 : Int32) (h : AH) (b : Int32 × AH) (e : fX11_allCopiesCome p1 p2 h = some b) : Ok yX11_allCopiesCome cX11_allCopiesCome 3 (some .boolean) 6 [.ref 0, .int p1, .int p2] h (some (.int b.1), b.2) := ok_of (sX11_allCopiesCome p1 p2 h) (by rw [e]; rfl) (by decide +kernel) (Nat.le_of_ble_eq_true rfl)
def fX11_author_l103b (rec : Int32 → AH → Option (Int32 × AH)) (K156 : AH → Option (Int32 × AH)) (x2 : Int32) (x3 : Int32) (x4 : Int32) (x5 : Int32) (h : AH) : Option (Int32 × AH) :=
  if x5 < (h.1 3 0) then
    if x5 = (fX11_at 49 x4 h) then
      rec (x5 + 1) h
    else
      (fX11_allCopiesCome x4 x5 h).bind (fun b17 =>
      if b17.1 = 0 then
        rec (x5 + 1) b17.2
      else
        letT (fX11_noteFound x4 x5 (-2 : Int32) b17.2) (fun g20 =>
        rec (x5 + 1) g20))
  else
    K156 h
def fX11_author_l103 (K156 : AH → Option (Int32 × AH)) (x2 : Int32) (x3 : Int32) (x4 : Int32) : Nat → Int32 → AH → Option (Int32 × AH)
  | 0, _, _ => none
  | n + 1, x5, h => fX11_author_l103b (fX11_author_l103 K156 x2 x3 x4 n) K156 x2 x3 x4 x5 h
theorem sX11_author_l103b {rec : Int32 → AH → Option (Int32 × AH)} {K156 : AH → Option (Int32 × AH)} {x2 : Int32} {x3 : Int32} {x4 : Int32} (hR : ∀ (x5 : Int32) (h : AH), Sim RX11 cX11_author 6 (some .int) 7 (Option.map oI) (rec x5 h) 103 [(0, .ref 0), (2, .int x2), (3, .int x3), (4, .int x4), (5, .int x5)] [] h) (hK156 : ∀ (g : AH), Sim RX11 cX11_author 6 (some .int) 7 (Option.map oI) (K156 g) 156 [(0, .ref 0), (2, .int x2), (3, .int x3), (4, .int x4)] [] g) : ∀ (x5 : Int32) (h : AH), Sim RX11 cX11_author 6 (some .int) 7 (Option.map oI) (fX11_author_l103b rec K156 x2 x3 x4 x5 h) 103 [(0, .ref 0), (2, .int x2), (3, .int x3), (4, .int x4), (5, .int x5)] [] h := by
  intro x5 h
  unfold fX11_author_l103b
  refine sim_iload 4 rfl dX11_author_103 ?_
  refine sim_aload_n 0 rfl dX11_author_105 ?_
  refine sim_getR flX11_19 rfl rfl dX11_author_106 ?_
  refine sim_getI flX11_123 rfl rfl dX11_author_109 ?_
  refine sim_icmp_ge (tgt := 156) dX11_author_112 (by decide) (fun c15 => ?_) (fun c15 => ?_)
  · refine sim_sub [0, 1, 2, 3] rfl ?_
    exact hK156 h
  · refine sim_iload 4 rfl dX11_author_115 ?_
    refine sim_aload_n 0 rfl dX11_author_117 ?_
    refine sim_getR flX11_53 rfl rfl dX11_author_118 ?_
    refine sim_iload 3 rfl dX11_author_121 ?_
    refine sim_cS (As := [.ref 49, .int x4]) (st := [.int x5]) (r := (some (.int (fX11_at 49 x4 h)))) (h1 := h) (okX11_at 49 rfl x4 h) (fun _ => rfl) mlX11_164 mtX11_at rfl (Nat.le_of_ble_eq_true rfl) rfl (Nat.le_of_ble_eq_true rfl) dX11_author_123 ?_
    refine sim_icmp_eq (tgt := 150) dX11_author_126 (by decide) (fun c16 => ?_) (fun c16 => ?_)
    · refine sim_iinc (v := x5 + 1) (L' := [(5, .int (x5 + 1)), (0, .ref 0), (2, .int x2), (3, .int x3), (4, .int x4)]) 4 rfl rfl rfl (by decide) dX11_author_150 ?_
      refine sim_goto (tgt := 103) dX11_author_153 (by decide) ?_
      refine sim_sub [1, 2, 3, 4, 0] rfl ?_
      exact hR (x5 + 1) h
    · refine sim_aload_n 0 rfl dX11_author_129 ?_
      refine sim_iload 3 rfl dX11_author_130 ?_
      refine sim_iload 4 rfl dX11_author_132 ?_
      refine sim_bind (fun b17 e18 => ?_)
      refine sim_cV (As := [.int x4, .int x5]) (st := []) (r := (some (.int b17.1))) (h1 := b17.2) (okX11_allCopiesCome x4 x5 h b17 e18) (fun _ => rfl) mlX11_320 mtX11_allCopiesCome rfl rfl rfl rfl (Nat.le_of_ble_eq_true rfl) rfl (Nat.le_of_ble_eq_true rfl) dX11_author_134 ?_
      refine sim_if_eq (tgt := 150) dX11_author_137 (by decide) (fun c19 => ?_) (fun c19 => ?_)
      · refine sim_iinc (v := x5 + 1) (L' := [(5, .int (x5 + 1)), (0, .ref 0), (2, .int x2), (3, .int x3), (4, .int x4)]) 4 rfl rfl rfl (by decide) dX11_author_150 ?_
        refine sim_goto (tgt := 103) dX11_author_153 (by decide) ?_
        refine sim_sub [1, 2, 3, 4, 0] rfl ?_
        exact hR (x5 + 1) b17.2
      · refine sim_aload_n 0 rfl dX11_author_140 ?_
        refine sim_iload 3 rfl dX11_author_141 ?_
        refine sim_iload 4 rfl dX11_author_143 ?_
        refine sim_bipush (v := -2) (by decide) dX11_author_145 ?_
        refine sim_cV (As := [.int x4, .int x5, .int (-2 : Int32)]) (st := []) (r := none) (h1 := (fX11_noteFound x4 x5 (-2 : Int32) b17.2)) (okX11_noteFound x4 x5 (-2 : Int32) b17.2) (fun _ => rfl) mlX11_225 mtX11_noteFound rfl rfl rfl rfl (Nat.le_of_ble_eq_true rfl) rfl (Nat.le_of_ble_eq_true rfl) dX11_author_147 ?_
        refine sim_nmH (fun g20 => ?_)
        refine sim_iinc (v := x5 + 1) (L' := [(5, .int (x5 + 1)), (0, .ref 0), (2, .int x2), (3, .int x3), (4, .int x4)]) 4 rfl rfl rfl (by decide) dX11_author_150 ?_
        refine sim_goto (tgt := 103) dX11_author_153 (by decide) ?_
        refine sim_sub [1, 2, 3, 4, 0] rfl ?_
        exact hR (x5 + 1) g20
theorem sX11_author_l103 {K156 : AH → Option (Int32 × AH)} {x2 : Int32} {x3 : Int32} {x4 : Int32} (hK156 : ∀ (g : AH), Sim RX11 cX11_author 6 (some .int) 7 (Option.map oI) (K156 g) 156 [(0, .ref 0), (2, .int x2), (3, .int x3), (4, .int x4)] [] g) : ∀ (n : Nat) (x5 : Int32) (h : AH), Sim RX11 cX11_author 6 (some .int) 7 (Option.map oI) (fX11_author_l103 K156 x2 x3 x4 n x5 h) 103 [(0, .ref 0), (2, .int x2), (3, .int x3), (4, .int x4), (5, .int x5)] [] h := by
  intro n
  induction n with
  | zero => intro x5 h; exact sim_none
  | succ n ih => intro x5 h; exact sX11_author_l103b ih hK156 x5 h
def fX11_author_l94b (rec : Int32 → AH → Option (Int32 × AH)) (K162 : AH → Option (Int32 × AH)) (x2 : Int32) (x3 : Int32) (x4 : Int32) (h : AH) : Option (Int32 × AH) :=
  if x4 < x3 then
    fX11_author_l103 (fun (g21 : AH) =>
      rec (x4 + 1) g21) x2 x3 x4 fuel0 (0 : Int32) h
  else
    K162 h
def fX11_author_l94 (K162 : AH → Option (Int32 × AH)) (x2 : Int32) (x3 : Int32) : Nat → Int32 → AH → Option (Int32 × AH)
  | 0, _, _ => none
  | n + 1, x4, h => fX11_author_l94b (fX11_author_l94 K162 x2 x3 n) K162 x2 x3 x4 h
theorem sX11_author_l94b {rec : Int32 → AH → Option (Int32 × AH)} {K162 : AH → Option (Int32 × AH)} {x2 : Int32} {x3 : Int32} (hR : ∀ (x4 : Int32) (h : AH), Sim RX11 cX11_author 6 (some .int) 7 (Option.map oI) (rec x4 h) 94 [(0, .ref 0), (2, .int x2), (3, .int x3), (4, .int x4)] [] h) (hK162 : ∀ (g : AH), Sim RX11 cX11_author 6 (some .int) 7 (Option.map oI) (K162 g) 162 [(0, .ref 0), (2, .int x2)] [] g) : ∀ (x4 : Int32) (h : AH), Sim RX11 cX11_author 6 (some .int) 7 (Option.map oI) (fX11_author_l94b rec K162 x2 x3 x4 h) 94 [(0, .ref 0), (2, .int x2), (3, .int x3), (4, .int x4)] [] h := by
  intro x4 h
  unfold fX11_author_l94b
  refine sim_iload 3 rfl dX11_author_94 ?_
  refine sim_iload_n 2 rfl dX11_author_96 ?_
  refine sim_icmp_ge (tgt := 162) dX11_author_97 (by decide) (fun c14 => ?_) (fun c14 => ?_)
  · refine sim_sub [0, 1] rfl ?_
    exact hK162 h
  · refine sim_iconst (v := 0) (by decide) dX11_author_100 ?_
    refine sim_istore (L' := [(5, .int (0 : Int32)), (0, .ref 0), (2, .int x2), (3, .int x3), (4, .int x4)]) rfl (by decide) dX11_author_101 ?_
    refine sim_sub [1, 2, 3, 4, 0] rfl ?_
    refine sX11_author_l103 (fun g21 => ?_) _ (0 : Int32) h
    · refine sim_iinc (v := x4 + 1) (L' := [(4, .int (x4 + 1)), (0, .ref 0), (2, .int x2), (3, .int x3)]) 3 rfl rfl rfl (by decide) dX11_author_156 ?_
      refine sim_goto (tgt := 94) dX11_author_159 (by decide) ?_
      refine sim_sub [1, 2, 3, 0] rfl ?_
      exact hR (x4 + 1) g21
theorem sX11_author_l94 {K162 : AH → Option (Int32 × AH)} {x2 : Int32} {x3 : Int32} (hK162 : ∀ (g : AH), Sim RX11 cX11_author 6 (some .int) 7 (Option.map oI) (K162 g) 162 [(0, .ref 0), (2, .int x2)] [] g) : ∀ (n : Nat) (x4 : Int32) (h : AH), Sim RX11 cX11_author 6 (some .int) 7 (Option.map oI) (fX11_author_l94 K162 x2 x3 n x4 h) 94 [(0, .ref 0), (2, .int x2), (3, .int x3), (4, .int x4)] [] h := by
  intro n
  induction n with
  | zero => intro x4 h; exact sim_none
  | succ n ih => intro x4 h; exact sX11_author_l94b ih hK162 x4 h
def fX11_author (p1 : Int32) (p2 : Int32) (h : AH) : Option (Int32 × AH) :=
  if p1 < (1 : Int32) then
    some ((-1 : Int32), h)
  else
    if (5 : Int32) < p1 then
      some ((-1 : Int32), h)
    else
      if p2 < 0 then
        some ((-1 : Int32), h)
      else
        if (2 : Int32) < p2 then
          some ((-1 : Int32), h)
        else
          if (h.1 6 0) = 0 then
            some ((-1 : Int32), h)
          else
            if (h.1 1 1) < (p1 * (h.1 6 0)) then
              some ((-1 : Int32), h)
            else
              (fX1_takeFrom 2 p1 h).bind (fun b7 =>
              letT (fX10_clear b7) (fun g9 =>
              (fX9_workOn (0 : Int32) 49 g9).bind (fun b10 =>
              (fX11_forgetFound b10).bind (fun b12 =>
              fX11_author_l94 (fun (g22 : AH) =>
                some (fX11_at 52 p2 g22, g22)) p2 (h.1 6 0) fuel0 (0 : Int32) b12))))
theorem sX11_author (p1 : Int32) (p2 : Int32) (h : AH) : Sim RX11 cX11_author 6 (some .int) 7 (Option.map oI) (fX11_author p1 p2 h) 0 [(0, .ref 0), (1, .int p1), (2, .int p2)] [] h := by
  unfold fX11_author
  refine sim_aload_n 0 rfl dX11_author_0 ?_
  refine sim_getR flX11_19 rfl rfl dX11_author_1 ?_
  refine sim_getR flX11_133 rfl rfl dX11_author_4 ?_
  refine sim_getI flX11_198 rfl rfl dX11_author_7 ?_
  refine sim_istore_n (L' := [(3, .int (h.1 6 0)), (0, .ref 0), (1, .int p1), (2, .int p2)]) rfl (by decide) dX11_author_10 ?_
  refine sim_iload_n 2 rfl dX11_author_11 ?_
  refine sim_iconst (v := 1) (by decide) dX11_author_12 ?_
  refine sim_icmp_lt (tgt := 47) dX11_author_13 (by decide) (fun c1 => ?_) (fun c1 => ?_)
  · refine sim_iconst (v := -1) (by decide) dX11_author_47 ?_
    exact sim_iret rfl rfl dX11_author_48
  · refine sim_iload_n 2 rfl dX11_author_16 ?_
    refine sim_iconst (v := 5) (by decide) dX11_author_17 ?_
    refine sim_icmp_gt (tgt := 47) dX11_author_18 (by decide) (fun c2 => ?_) (fun c2 => ?_)
    · refine sim_iconst (v := -1) (by decide) dX11_author_47 ?_
      exact sim_iret rfl rfl dX11_author_48
    · refine sim_iload_n 3 rfl dX11_author_21 ?_
      refine sim_if_lt (tgt := 47) dX11_author_22 (by decide) (fun c3 => ?_) (fun c3 => ?_)
      · refine sim_iconst (v := -1) (by decide) dX11_author_47 ?_
        exact sim_iret rfl rfl dX11_author_48
      · refine sim_iload_n 3 rfl dX11_author_25 ?_
        refine sim_iconst (v := 2) (by decide) dX11_author_26 ?_
        refine sim_icmp_gt (tgt := 47) dX11_author_27 (by decide) (fun c4 => ?_) (fun c4 => ?_)
        · refine sim_iconst (v := -1) (by decide) dX11_author_47 ?_
          exact sim_iret rfl rfl dX11_author_48
        · refine sim_iload_n 0 rfl dX11_author_30 ?_
          refine sim_if_eq (tgt := 47) dX11_author_31 (by decide) (fun c5 => ?_) (fun c5 => ?_)
          · refine sim_iconst (v := -1) (by decide) dX11_author_47 ?_
            exact sim_iret rfl rfl dX11_author_48
          · refine sim_iload_n 2 rfl dX11_author_34 ?_
            refine sim_iload_n 0 rfl dX11_author_35 ?_
            refine sim_imul dX11_author_36 ?_
            refine sim_aload_n 1 rfl dX11_author_37 ?_
            refine sim_getR flX11_10 rfl rfl dX11_author_38 ?_
            refine sim_getI flX11_116 rfl rfl dX11_author_41 ?_
            refine sim_icmp_le (tgt := 49) dX11_author_44 (by decide) (fun c6 => ?_) (fun c6 => ?_)
            · refine sim_aload_n 1 rfl dX11_author_49 ?_
              refine sim_getR flX11_97 rfl rfl dX11_author_50 ?_
              refine sim_aload_n 1 rfl dX11_author_53 ?_
              refine sim_getR flX11_10 rfl rfl dX11_author_54 ?_
              refine sim_getR flX11_313 rfl rfl dX11_author_57 ?_
              refine sim_iload_n 2 rfl dX11_author_60 ?_
              refine sim_aload_n 1 rfl dX11_author_61 ?_
              refine sim_getR flX11_19 rfl rfl dX11_author_62 ?_
              refine sim_bind (fun b7 e8 => ?_)
              refine sim_cV (As := [.ref 2, .int p1, .ref 3]) (st := []) (r := none) (h1 := b7) (okX1_takeFrom 2 rfl p1 h b7 e8) (fun _ => rfl) mlX11_316 mtX1_takeFrom rfl rfl rfl rfl (Nat.le_of_ble_eq_true rfl) rfl (Nat.le_of_ble_eq_true rfl) dX11_author_65 ?_
              refine sim_aload_n 1 rfl dX11_author_68 ?_
              refine sim_getR flX11_10 rfl rfl dX11_author_69 ?_
              refine sim_cV (As := []) (st := []) (r := none) (h1 := (fX10_clear b7)) (okX10_clear b7) (fun _ => rfl) mlX11_130 mtX10_clear rfl rfl rfl rfl (Nat.le_of_ble_eq_true rfl) rfl (Nat.le_of_ble_eq_true rfl) dX11_author_72 ?_
              refine sim_nmH (fun g9 => ?_)
              refine sim_aload_n 1 rfl dX11_author_75 ?_
              refine sim_getR flX11_19 rfl rfl dX11_author_76 ?_
              refine sim_iconst (v := 0) (by decide) dX11_author_79 ?_
              refine sim_aload_n 1 rfl dX11_author_80 ?_
              refine sim_getR flX11_53 rfl rfl dX11_author_81 ?_
              refine sim_bind (fun b10 e11 => ?_)
              refine sim_cV (As := [.int (0 : Int32), .ref 49]) (st := []) (r := none) (h1 := b10) (okX9_workOn (0 : Int32) 49 rfl g9 b10 e11) (fun _ => rfl) mlX11_174 mtX9_workOn rfl rfl rfl rfl (Nat.le_of_ble_eq_true rfl) rfl (Nat.le_of_ble_eq_true rfl) dX11_author_84 ?_
              refine sim_aload_n 1 rfl dX11_author_87 ?_
              refine sim_bind (fun b12 e13 => ?_)
              refine sim_cV (As := []) (st := []) (r := none) (h1 := b12) (okX11_forgetFound b10 b12 e13) (fun _ => rfl) mlX11_219 mtX11_forgetFound rfl rfl rfl rfl (Nat.le_of_ble_eq_true rfl) rfl (Nat.le_of_ble_eq_true rfl) dX11_author_88 ?_
              refine sim_iconst (v := 0) (by decide) dX11_author_91 ?_
              refine sim_istore (L' := [(4, .int (0 : Int32)), (3, .int (h.1 6 0)), (0, .ref 0), (1, .int p1), (2, .int p2)]) rfl (by decide) dX11_author_92 ?_
              refine sim_sub [2, 4, 1, 0] rfl ?_
              refine sX11_author_l94 (fun g22 => ?_) _ (0 : Int32) b12
              · refine sim_aload_n 0 rfl dX11_author_162 ?_
                refine sim_getR flX11_63 rfl rfl dX11_author_163 ?_
                refine sim_iload_n 1 rfl dX11_author_166 ?_
                refine sim_cS (As := [.ref 52, .int p2]) (st := []) (r := (some (.int (fX11_at 52 p2 g22)))) (h1 := g22) (okX11_at 52 rfl p2 g22) (fun _ => rfl) mlX11_164 mtX11_at rfl (Nat.le_of_ble_eq_true rfl) rfl (Nat.le_of_ble_eq_true rfl) dX11_author_167 ?_
                exact sim_iret rfl rfl dX11_author_170
            · refine sim_iconst (v := -1) (by decide) dX11_author_47 ?_
              exact sim_iret rfl rfl dX11_author_48
theorem okX11_author (p1 : Int32) (p2 : Int32) (h : AH) (b : Int32 × AH) (e : fX11_author p1 p2 h = some b) : Ok yX11_author cX11_author 6 (some .int) 7 [.ref 0, .int p1, .int p2] h (some (.int b.1), b.2) := ok_of (sX11_author p1 p2 h) (by rw [e]; rfl) (by decide +kernel) (Nat.le_of_ble_eq_true rfl)
end
