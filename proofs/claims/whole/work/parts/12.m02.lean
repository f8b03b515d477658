noncomputable section
def fX12_mended_l25b (rec : Int32 → Int32 → Int32 → AH → Option (Int32 × AH)) (K139 : Int32 → Int32 → AH → Option (Int32 × AH)) (x1 : Int32) (x2 : Int32) (x3 : Int32) (x4 : Int32) (h : AH) : Option (Int32 × AH) :=
  if x4 < ((h.1 75 2) * (h.1 75 0)) then
    if (h.1 75 0) = 0 then none else
    letT (x4 / (h.1 75 0)) (fun v7 =>
    if v7 < 0 ∨ 20 ≤ v7.toNatClampNeg then none else
    letT (h.1 77 v7.toNatClampNeg) (fun v9 =>
    if (h.1 75 0) = 0 then none else
    if (jrem x4 (h.1 75 0)) = v9 then
      rec x2 x3 (x4 + 1) h
    else
      if (h.1 75 0) = 0 then none else
      if v7 < 0 ∨ 20 ≤ v7.toNatClampNeg then none else
      letT (sI h 77 v7.toNatClampNeg (jrem x4 (h.1 75 0))) (fun g14 =>
      (fX12_wrong g14).bind (fun b15 =>
      letT (fun (w17 : Int32) =>
        if v7 < 0 ∨ 20 ≤ v7.toNatClampNeg then none else
        letT (sI g14 77 v7.toNatClampNeg v9) (fun g20 =>
        if w17 = 0 then
          rec x2 x3 (x4 + 1) g20
        else
          if x3 = (-1 : Int32) then
            letT (x2 + (1 : Int32)) (fun v24 =>
            rec v24 x4 (x4 + 1) g20)
          else
            letT (x2 + (1 : Int32)) (fun v23 =>
            rec v23 x3 (x4 + 1) g20))) (fun J18 =>
      if b15 = 0 then
        J18 (1 : Int32)
      else
        J18 (0 : Int32))))))
  else
    K139 x2 x3 h
def fX12_mended_l25 (K139 : Int32 → Int32 → AH → Option (Int32 × AH)) (x1 : Int32) : Nat → Int32 → Int32 → Int32 → AH → Option (Int32 × AH)
  | 0, _, _, _, _ => none
  | n + 1, x2, x3, x4, h => fX12_mended_l25b (fX12_mended_l25 K139 x1 n) K139 x1 x2 x3 x4 h
theorem sX12_mended_l25b {rec : Int32 → Int32 → Int32 → AH → Option (Int32 × AH)} {K139 : Int32 → Int32 → AH → Option (Int32 × AH)} {x1 : Int32} (hR : ∀ (x2 : Int32) (x3 : Int32) (x4 : Int32) (h : AH), Sim RX12 cX12_mended 8 (some .int) 4 (Option.map oI) (rec x2 x3 x4 h) 25 [(0, .ref 75), (1, .int x1), (2, .int x2), (3, .int x3), (4, .int x4)] [] h) (hK139 : ∀ (y2 : Int32) (y3 : Int32) (g : AH), Sim RX12 cX12_mended 8 (some .int) 4 (Option.map oI) (K139 y2 y3 g) 139 [(0, .ref 75), (1, .int x1), (2, .int y2), (3, .int y3)] [] g) : ∀ (x2 : Int32) (x3 : Int32) (x4 : Int32) (h : AH), Sim RX12 cX12_mended 8 (some .int) 4 (Option.map oI) (fX12_mended_l25b rec K139 x1 x2 x3 x4 h) 25 [(0, .ref 75), (1, .int x1), (2, .int x2), (3, .int x3), (4, .int x4)] [] h := by
  intro x2 x3 x4 h
  unfold fX12_mended_l25b
  refine sim_iload 4 rfl dX12_mended_25 ?_
  refine sim_aload_n 0 rfl dX12_mended_27 ?_
  refine sim_getI flX12_145 rfl rfl dX12_mended_28 ?_
  refine sim_aload_n 0 rfl dX12_mended_31 ?_
  refine sim_getI flX12_134 rfl rfl dX12_mended_32 ?_
  refine sim_imul dX12_mended_35 ?_
  refine sim_icmp_ge (tgt := 139) dX12_mended_36 (by decide) (fun c5 => ?_) (fun c5 => ?_)
  · refine sim_sub [0, 1, 2, 3] rfl ?_
    exact hK139 x2 x3 h
  · refine sim_iload 4 rfl dX12_mended_39 ?_
    refine sim_aload_n 0 rfl dX12_mended_41 ?_
    refine sim_getI flX12_134 rfl rfl dX12_mended_42 ?_
    refine sim_nguard (fun c6 => ?_)
    refine sim_idiv c6 dX12_mended_45 ?_
    refine sim_nmI (fun v7 => ?_)
    refine sim_istore (L' := [(5, .int v7), (0, .ref 75), (1, .int x1), (2, .int x2), (3, .int x3), (4, .int x4)]) rfl (by decide) dX12_mended_46 ?_
    refine sim_aload_n 1 rfl dX12_mended_48 ?_
    refine sim_getR flX12_13 rfl rfl dX12_mended_49 ?_
    refine sim_iload 0 rfl dX12_mended_52 ?_
    refine sim_nguard (fun c8 => ?_)
    refine sim_iald rfl c8 dX12_mended_54 ?_
    refine sim_nmI (fun v9 => ?_)
    refine sim_istore (L' := [(6, .int v9), (5, .int v7), (0, .ref 75), (1, .int x1), (2, .int x2), (3, .int x3), (4, .int x4)]) rfl (by decide) dX12_mended_55 ?_
    refine sim_iload 6 rfl dX12_mended_57 ?_
    refine sim_aload_n 2 rfl dX12_mended_59 ?_
    refine sim_getI flX12_134 rfl rfl dX12_mended_60 ?_
    refine sim_nguard (fun c10 => ?_)
    refine sim_irem c10 dX12_mended_63 ?_
    refine sim_iload 0 rfl dX12_mended_64 ?_
    refine sim_icmp_ne (tgt := 72) dX12_mended_66 (by decide) (fun c11 => ?_) (fun c11 => ?_)
    · refine sim_aload_n 2 rfl dX12_mended_72 ?_
      refine sim_getR flX12_13 rfl rfl dX12_mended_73 ?_
      refine sim_iload 1 rfl dX12_mended_76 ?_
      refine sim_iload 6 rfl dX12_mended_78 ?_
      refine sim_aload_n 2 rfl dX12_mended_80 ?_
      refine sim_getI flX12_134 rfl rfl dX12_mended_81 ?_
      refine sim_nguard (fun c12 => ?_)
      refine sim_irem c12 dX12_mended_84 ?_
      refine sim_nguard (fun c13 => ?_)
      refine sim_iast rfl c13 dX12_mended_85 ?_
      refine sim_nmH (fun g14 => ?_)
      refine sim_aload_n 2 rfl dX12_mended_86 ?_
      refine sim_bind (fun b15 e16 => ?_)
      refine sim_cV (As := []) (st := []) (r := (some (.int b15))) (h1 := g14) (okX12_wrong g14 b15 e16) (fun _ => rfl) mlX12_232 mtX12_wrong rfl rfl rfl rfl (Nat.le_of_ble_eq_true rfl) rfl (Nat.le_of_ble_eq_true rfl) dX12_mended_87 ?_
      refine sim_letJ (fun J18 => ∀ (w17 : Int32), Sim RX12 cX12_mended 8 (some .int) 4 (Option.map oI) (J18 w17) 98 [(0, .ref 75), (1, .int x1), (2, .int x2), (3, .int x3), (4, .int x4), (5, .int v7), (6, .int v9)] [.int w17] g14) (fun w17 => ?_) (fun J18 hJ18 => ?_)
      · refine sim_istore (L' := [(7, .int w17), (0, .ref 75), (1, .int x1), (2, .int x2), (3, .int x3), (4, .int x4), (5, .int v7), (6, .int v9)]) rfl (by decide) dX12_mended_98 ?_
        refine sim_aload_n 1 rfl dX12_mended_100 ?_
        refine sim_getR flX12_13 rfl rfl dX12_mended_101 ?_
        refine sim_iload 6 rfl dX12_mended_104 ?_
        refine sim_iload 7 rfl dX12_mended_106 ?_
        refine sim_nguard (fun c19 => ?_)
        refine sim_iast rfl c19 dX12_mended_108 ?_
        refine sim_nmH (fun g20 => ?_)
        refine sim_iload 0 rfl dX12_mended_109 ?_
        refine sim_if_ne (tgt := 117) dX12_mended_111 (by decide) (fun c21 => ?_) (fun c21 => ?_)
        · refine sim_iload_n 4 rfl dX12_mended_117 ?_
          refine sim_iconst (v := -1) (by decide) dX12_mended_118 ?_
          refine sim_icmp_ne (tgt := 127) dX12_mended_119 (by decide) (fun c22 => ?_) (fun c22 => ?_)
          · refine sim_iload_n 4 rfl dX12_mended_127 ?_
            refine sim_istore_n (L' := [(3, .int x3), (7, .int w17), (0, .ref 75), (1, .int x1), (2, .int x2), (4, .int x4), (5, .int v7), (6, .int v9)]) rfl (by decide) dX12_mended_128 ?_
            refine sim_iload_n 4 rfl dX12_mended_129 ?_
            refine sim_iconst (v := 1) (by decide) dX12_mended_130 ?_
            refine sim_iadd dX12_mended_131 ?_
            refine sim_nmI (fun v23 => ?_)
            refine sim_istore_n (L' := [(2, .int v23), (3, .int x3), (7, .int w17), (0, .ref 75), (1, .int x1), (4, .int x4), (5, .int v7), (6, .int v9)]) rfl (by decide) dX12_mended_132 ?_
            refine sim_iinc (v := x4 + 1) (L' := [(4, .int (x4 + 1)), (2, .int v23), (3, .int x3), (7, .int w17), (0, .ref 75), (1, .int x1), (5, .int v7), (6, .int v9)]) 5 rfl rfl rfl (by decide) dX12_mended_133 ?_
            refine sim_goto (tgt := 25) dX12_mended_136 (by decide) ?_
            refine sim_sub [4, 5, 1, 2, 0] rfl ?_
            exact hR v23 x3 (x4 + 1) g20
          · refine sim_iload 5 rfl dX12_mended_122 ?_
            refine sim_goto (tgt := 128) dX12_mended_124 (by decide) ?_
            refine sim_istore_n (L' := [(3, .int x4), (7, .int w17), (0, .ref 75), (1, .int x1), (2, .int x2), (4, .int x4), (5, .int v7), (6, .int v9)]) rfl (by decide) dX12_mended_128 ?_
            refine sim_iload_n 4 rfl dX12_mended_129 ?_
            refine sim_iconst (v := 1) (by decide) dX12_mended_130 ?_
            refine sim_iadd dX12_mended_131 ?_
            refine sim_nmI (fun v24 => ?_)
            refine sim_istore_n (L' := [(2, .int v24), (3, .int x4), (7, .int w17), (0, .ref 75), (1, .int x1), (4, .int x4), (5, .int v7), (6, .int v9)]) rfl (by decide) dX12_mended_132 ?_
            refine sim_iinc (v := x4 + 1) (L' := [(4, .int (x4 + 1)), (2, .int v24), (3, .int x4), (7, .int w17), (0, .ref 75), (1, .int x1), (5, .int v7), (6, .int v9)]) 5 rfl rfl rfl (by decide) dX12_mended_133 ?_
            refine sim_goto (tgt := 25) dX12_mended_136 (by decide) ?_
            refine sim_sub [4, 5, 1, 2, 0] rfl ?_
            exact hR v24 x4 (x4 + 1) g20
        · refine sim_goto (tgt := 133) dX12_mended_114 (by decide) ?_
          refine sim_iinc (v := x4 + 1) (L' := [(4, .int (x4 + 1)), (7, .int w17), (0, .ref 75), (1, .int x1), (2, .int x2), (3, .int x3), (5, .int v7), (6, .int v9)]) 5 rfl rfl rfl (by decide) dX12_mended_133 ?_
          refine sim_goto (tgt := 25) dX12_mended_136 (by decide) ?_
          refine sim_sub [2, 3, 4, 5, 0] rfl ?_
          exact hR x2 x3 (x4 + 1) g20
      refine sim_if_ne (tgt := 97) dX12_mended_90 (by decide) (fun c25 => ?_) (fun c25 => ?_)
      · refine sim_iconst (v := 0) (by decide) dX12_mended_97 ?_
        refine sim_sub [2, 3, 4, 5, 6, 1, 0] rfl ?_
        exact hJ18 (0 : Int32)
      · refine sim_iconst (v := 1) (by decide) dX12_mended_93 ?_
        refine sim_goto (tgt := 98) dX12_mended_94 (by decide) ?_
        refine sim_sub [2, 3, 4, 5, 6, 1, 0] rfl ?_
        exact hJ18 (1 : Int32)
    · refine sim_goto (tgt := 133) dX12_mended_69 (by decide) ?_
      refine sim_iinc (v := x4 + 1) (L' := [(4, .int (x4 + 1)), (6, .int v9), (5, .int v7), (0, .ref 75), (1, .int x1), (2, .int x2), (3, .int x3)]) 6 rfl rfl rfl (by decide) dX12_mended_133 ?_
      refine sim_goto (tgt := 25) dX12_mended_136 (by decide) ?_
      refine sim_sub [3, 4, 5, 6, 0] rfl ?_
      exact hR x2 x3 (x4 + 1) h
theorem sX12_mended_l25 {K139 : Int32 → Int32 → AH → Option (Int32 × AH)} {x1 : Int32} (hK139 : ∀ (y2 : Int32) (y3 : Int32) (g : AH), Sim RX12 cX12_mended 8 (some .int) 4 (Option.map oI) (K139 y2 y3 g) 139 [(0, .ref 75), (1, .int x1), (2, .int y2), (3, .int y3)] [] g) : ∀ (n : Nat) (x2 : Int32) (x3 : Int32) (x4 : Int32) (h : AH), Sim RX12 cX12_mended 8 (some .int) 4 (Option.map oI) (fX12_mended_l25 K139 x1 n x2 x3 x4 h) 25 [(0, .ref 75), (1, .int x1), (2, .int x2), (3, .int x3), (4, .int x4)] [] h := by
  intro n
  induction n with
  | zero => intro x2 x3 x4 h; exact sim_none
  | succ n ih => intro x2 x3 x4 h; exact sX12_mended_l25b ih hK139 x2 x3 x4 h
def fX12_mended (p1 : Int32) (h : AH) : Option (Int32 × AH) :=
  if (fX12_in p1 (0 : Int32) (2 : Int32) h) = 0 then
    some ((-1 : Int32), h)
  else
    (fX12_wrong h).bind (fun b2 =>
    if b2 = 0 then
      some ((-1 : Int32), h)
    else
      fX12_mended_l25 (fun (y26 : Int32) (y27 : Int32) (g28 : AH) =>
        if p1 = 0 then
          some (y26, g28)
        else
          if y27 = (-1 : Int32) then
            some ((-2 : Int32), g28)
          else
            if p1 = (1 : Int32) then
              if (g28.1 75 0) = 0 then none else
              some (y27 / (g28.1 75 0), g28)
            else
              if (g28.1 75 0) = 0 then none else
              some (jrem y27 (g28.1 75 0), g28)) p1 fuel0 (0 : Int32) (-1 : Int32) (0 : Int32) h)
theorem sX12_mended (p1 : Int32) (h : AH) : Sim RX12 cX12_mended 8 (some .int) 4 (Option.map oI) (fX12_mended p1 h) 0 [(0, .ref 75), (1, .int p1)] [] h := by
  unfold fX12_mended
  refine sim_iload_n 1 rfl dX12_mended_0 ?_
  refine sim_iconst (v := 0) (by decide) dX12_mended_1 ?_
  refine sim_iconst (v := 2) (by decide) dX12_mended_2 ?_
  refine sim_cS (As := [.int p1, .int (0 : Int32), .int (2 : Int32)]) (st := []) (r := (some (.int (fX12_in p1 (0 : Int32) (2 : Int32) h)))) (h1 := h) (okX12_in p1 (0 : Int32) (2 : Int32) h) (fun _ => rfl) mlX12_141 mtX12_in rfl (Nat.le_of_ble_eq_true rfl) rfl (Nat.le_of_ble_eq_true rfl) dX12_mended_3 ?_
  refine sim_if_eq (tgt := 16) dX12_mended_6 (by decide) (fun c1 => ?_) (fun c1 => ?_)
  · refine sim_iconst (v := -1) (by decide) dX12_mended_16 ?_
    exact sim_iret rfl rfl dX12_mended_17
  · refine sim_aload_n 0 rfl dX12_mended_9 ?_
    refine sim_bind (fun b2 e3 => ?_)
    refine sim_cV (As := []) (st := []) (r := (some (.int b2))) (h1 := h) (okX12_wrong h b2 e3) (fun _ => rfl) mlX12_232 mtX12_wrong rfl rfl rfl rfl (Nat.le_of_ble_eq_true rfl) rfl (Nat.le_of_ble_eq_true rfl) dX12_mended_10 ?_
    refine sim_if_ne (tgt := 18) dX12_mended_13 (by decide) (fun c4 => ?_) (fun c4 => ?_)
    · refine sim_iconst (v := 0) (by decide) dX12_mended_18 ?_
      refine sim_istore_n (L' := [(2, .int (0 : Int32)), (0, .ref 75), (1, .int p1)]) rfl (by decide) dX12_mended_19 ?_
      refine sim_iconst (v := -1) (by decide) dX12_mended_20 ?_
      refine sim_istore_n (L' := [(3, .int (-1 : Int32)), (2, .int (0 : Int32)), (0, .ref 75), (1, .int p1)]) rfl (by decide) dX12_mended_21 ?_
      refine sim_iconst (v := 0) (by decide) dX12_mended_22 ?_
      refine sim_istore (L' := [(4, .int (0 : Int32)), (3, .int (-1 : Int32)), (2, .int (0 : Int32)), (0, .ref 75), (1, .int p1)]) rfl (by decide) dX12_mended_23 ?_
      refine sim_sub [3, 4, 2, 1, 0] rfl ?_
      refine sX12_mended_l25 (fun y26 y27 g28 => ?_) _ (0 : Int32) (-1 : Int32) (0 : Int32) h
      · refine sim_iload_n 1 rfl dX12_mended_139 ?_
        refine sim_if_ne (tgt := 147) dX12_mended_140 (by decide) (fun c29 => ?_) (fun c29 => ?_)
        · refine sim_iload_n 3 rfl dX12_mended_147 ?_
          refine sim_iconst (v := -1) (by decide) dX12_mended_148 ?_
          refine sim_icmp_ne (tgt := 157) dX12_mended_149 (by decide) (fun c30 => ?_) (fun c30 => ?_)
          · refine sim_iload_n 1 rfl dX12_mended_157 ?_
            refine sim_iconst (v := 1) (by decide) dX12_mended_158 ?_
            refine sim_icmp_ne (tgt := 171) dX12_mended_159 (by decide) (fun c31 => ?_) (fun c31 => ?_)
            · refine sim_iload_n 3 rfl dX12_mended_171 ?_
              refine sim_aload_n 0 rfl dX12_mended_172 ?_
              refine sim_getI flX12_134 rfl rfl dX12_mended_173 ?_
              refine sim_nguard (fun c32 => ?_)
              refine sim_irem c32 dX12_mended_176 ?_
              exact sim_iret rfl rfl dX12_mended_177
            · refine sim_iload_n 3 rfl dX12_mended_162 ?_
              refine sim_aload_n 0 rfl dX12_mended_163 ?_
              refine sim_getI flX12_134 rfl rfl dX12_mended_164 ?_
              refine sim_nguard (fun c33 => ?_)
              refine sim_idiv c33 dX12_mended_167 ?_
              refine sim_goto (tgt := 177) dX12_mended_168 (by decide) ?_
              exact sim_iret rfl rfl dX12_mended_177
          · refine sim_bipush (v := -2) (by decide) dX12_mended_152 ?_
            refine sim_goto (tgt := 177) dX12_mended_154 (by decide) ?_
            exact sim_iret rfl rfl dX12_mended_177
        · refine sim_iload_n 2 rfl dX12_mended_143 ?_
          refine sim_goto (tgt := 177) dX12_mended_144 (by decide) ?_
          exact sim_iret rfl rfl dX12_mended_177
    · refine sim_iconst (v := -1) (by decide) dX12_mended_16 ?_
      exact sim_iret rfl rfl dX12_mended_17
theorem okX12_mended (p1 : Int32) (h : AH) (b : Int32 × AH) (e : fX12_mended p1 h = some b) : Ok yX12_mended cX12_mended 8 (some .int) 4 [.ref 75, .int p1] h (some (.int b.1), b.2) := ok_of (sX12_mended p1 h) (by rw [e]; rfl) (by decide +kernel) (Nat.le_of_ble_eq_true rfl)
def fX12_doesWith (p1 : Int32) (p2 : Int32) (p3 : Int32) (h : AH) : Option (Int32 × AH) :=
  if p1 < 0 ∨ 20 ≤ p1.toNatClampNeg then none else
  letT (h.1 79 p1.toNatClampNeg) (fun v2 =>
  if p1 < 0 ∨ 20 ≤ p1.toNatClampNeg then none else
  letT (h.1 80 p1.toNatClampNeg) (fun v4 =>
  letT (fun (g5 : AH) =>
    (fX12_wrong g5).bind (fun b7 =>
    letT (fun (w9 : Int32) =>
      if p1 < 0 ∨ 20 ≤ p1.toNatClampNeg then none else
      letT (sI g5 79 p1.toNatClampNeg v2) (fun g12 =>
      if p1 < 0 ∨ 20 ≤ p1.toNatClampNeg then none else
      letT (sI g12 80 p1.toNatClampNeg v4) (fun g14 =>
      if w9 = 0 ∨ w9 = 1 then some (w9, g14) else none))) (fun J10 =>
    if b7 = 0 then
      J10 (1 : Int32)
    else
      J10 (0 : Int32)))) (fun J6 =>
  if p2 = 0 then
    if p1 < 0 ∨ 20 ≤ p1.toNatClampNeg then none else
    letT (sI h 79 p1.toNatClampNeg p3) (fun g21 =>
    J6 g21)
  else
    if p1 < 0 ∨ 20 ≤ p1.toNatClampNeg then none else
    letT (sI h 80 p1.toNatClampNeg p3) (fun g19 =>
    J6 g19))))
theorem sX12_doesWith (p1 : Int32) (p2 : Int32) (p3 : Int32) (h : AH) : Sim RX12 cX12_doesWith 7 (some .boolean) 4 (Option.map oI) (fX12_doesWith p1 p2 p3 h) 0 [(0, .ref 75), (1, .int p1), (2, .int p2), (3, .int p3)] [] h := by
  unfold fX12_doesWith
  refine sim_aload_n 0 rfl dX12_doesWith_0 ?_
  refine sim_getR flX12_19 rfl rfl dX12_doesWith_1 ?_
  refine sim_iload_n 1 rfl dX12_doesWith_4 ?_
  refine sim_nguard (fun c1 => ?_)
  refine sim_iald rfl c1 dX12_doesWith_5 ?_
  refine sim_nmI (fun v2 => ?_)
  refine sim_istore (L' := [(4, .int v2), (0, .ref 75), (1, .int p1), (2, .int p2), (3, .int p3)]) rfl (by decide) dX12_doesWith_6 ?_
  refine sim_aload_n 1 rfl dX12_doesWith_8 ?_
  refine sim_getR flX12_22 rfl rfl dX12_doesWith_9 ?_
  refine sim_iload_n 2 rfl dX12_doesWith_12 ?_
  refine sim_nguard (fun c3 => ?_)
  refine sim_iald rfl c3 dX12_doesWith_13 ?_
  refine sim_nmI (fun v4 => ?_)
  refine sim_istore (L' := [(5, .int v4), (4, .int v2), (0, .ref 75), (1, .int p1), (2, .int p2), (3, .int p3)]) rfl (by decide) dX12_doesWith_14 ?_
  refine sim_iload_n 4 rfl dX12_doesWith_16 ?_
  refine sim_letJ (fun J6 => ∀ (g5 : AH), Sim RX12 cX12_doesWith 7 (some .boolean) 4 (Option.map oI) (J6 g5) 37 [(0, .ref 75), (1, .int p1), (4, .int v2), (5, .int v4)] [] g5) (fun g5 => ?_) (fun J6 hJ6 => ?_)
  · refine sim_aload_n 0 rfl dX12_doesWith_37 ?_
    refine sim_bind (fun b7 e8 => ?_)
    refine sim_cV (As := []) (st := []) (r := (some (.int b7))) (h1 := g5) (okX12_wrong g5 b7 e8) (fun _ => rfl) mlX12_232 mtX12_wrong rfl rfl rfl rfl (Nat.le_of_ble_eq_true rfl) rfl (Nat.le_of_ble_eq_true rfl) dX12_doesWith_38 ?_
    refine sim_letJ (fun J10 => ∀ (w9 : Int32), Sim RX12 cX12_doesWith 7 (some .boolean) 4 (Option.map oI) (J10 w9) 49 [(0, .ref 75), (1, .int p1), (4, .int v2), (5, .int v4)] [.int w9] g5) (fun w9 => ?_) (fun J10 hJ10 => ?_)
    · refine sim_istore (L' := [(6, .int w9), (0, .ref 75), (1, .int p1), (4, .int v2), (5, .int v4)]) rfl (by decide) dX12_doesWith_49 ?_
      refine sim_aload_n 1 rfl dX12_doesWith_51 ?_
      refine sim_getR flX12_19 rfl rfl dX12_doesWith_52 ?_
      refine sim_iload_n 2 rfl dX12_doesWith_55 ?_
      refine sim_iload 3 rfl dX12_doesWith_56 ?_
      refine sim_nguard (fun c11 => ?_)
      refine sim_iast rfl c11 dX12_doesWith_58 ?_
      refine sim_nmH (fun g12 => ?_)
      refine sim_aload_n 1 rfl dX12_doesWith_59 ?_
      refine sim_getR flX12_22 rfl rfl dX12_doesWith_60 ?_
      refine sim_iload_n 2 rfl dX12_doesWith_63 ?_
      refine sim_iload 4 rfl dX12_doesWith_64 ?_
      refine sim_nguard (fun c13 => ?_)
      refine sim_iast rfl c13 dX12_doesWith_66 ?_
      refine sim_nmH (fun g14 => ?_)
      refine sim_iload 0 rfl dX12_doesWith_67 ?_
      refine sim_guard (fun c15 => ?_)
      exact sim_zret rfl (nar_b c15) rfl dX12_doesWith_69
    refine sim_if_ne (tgt := 48) dX12_doesWith_41 (by decide) (fun c16 => ?_) (fun c16 => ?_)
    · refine sim_iconst (v := 0) (by decide) dX12_doesWith_48 ?_
      exact hJ10 (0 : Int32)
    · refine sim_iconst (v := 1) (by decide) dX12_doesWith_44 ?_
      refine sim_goto (tgt := 49) dX12_doesWith_45 (by decide) ?_
      exact hJ10 (1 : Int32)
  refine sim_if_ne (tgt := 30) dX12_doesWith_17 (by decide) (fun c17 => ?_) (fun c17 => ?_)
  · refine sim_aload_n 2 rfl dX12_doesWith_30 ?_
    refine sim_getR flX12_22 rfl rfl dX12_doesWith_31 ?_
    refine sim_iload_n 3 rfl dX12_doesWith_34 ?_
    refine sim_iload_n 5 rfl dX12_doesWith_35 ?_
    refine sim_nguard (fun c18 => ?_)
    refine sim_iast rfl c18 dX12_doesWith_36 ?_
    refine sim_nmH (fun g19 => ?_)
    refine sim_sub [2, 3, 1, 0] rfl ?_
    exact hJ6 g19
  · refine sim_aload_n 2 rfl dX12_doesWith_20 ?_
    refine sim_getR flX12_19 rfl rfl dX12_doesWith_21 ?_
    refine sim_iload_n 3 rfl dX12_doesWith_24 ?_
    refine sim_iload_n 5 rfl dX12_doesWith_25 ?_
    refine sim_nguard (fun c20 => ?_)
    refine sim_iast rfl c20 dX12_doesWith_26 ?_
    refine sim_nmH (fun g21 => ?_)
    refine sim_goto (tgt := 37) dX12_doesWith_27 (by decide) ?_
    refine sim_sub [2, 3, 1, 0] rfl ?_
    exact hJ6 g21
theorem okX12_doesWith (p1 : Int32) (p2 : Int32) (p3 : Int32) (h : AH) (b : Int32 × AH) (e : fX12_doesWith p1 p2 p3 h = some b) : Ok yX12_doesWith cX12_doesWith 7 (some .boolean) 4 [.ref 75, .int p1, .int p2, .int p3] h (some (.int b.1), b.2) := ok_of (sX12_doesWith p1 p2 p3 h) (by rw [e]; rfl) (by decide +kernel) (Nat.le_of_ble_eq_true rfl)
def fX12_referred_l25b (rec : Int32 → Int32 → Int32 → AH → Option (Int32 × AH)) (K158 : Int32 → Int32 → AH → Option (Int32 × AH)) (x1 : Int32) (x2 : Int32) (x3 : Int32) (x4 : Int32) (h : AH) : Option (Int32 × AH) :=
  if x4 < ((40 : Int32) * (h.1 75 2)) then
    letT (x4 / (40 : Int32)) (fun v6 =>
    letT (jrem (x4 / (20 : Int32)) (2 : Int32)) (fun v7 =>
    letT (jrem x4 (20 : Int32)) (fun v8 =>
    if v6 < 0 ∨ 20 ≤ v6.toNatClampNeg then none else
    if (h.1 78 v6.toNatClampNeg) = 0 then
      rec x2 x3 (x4 + 1) h
    else
      letT (if v8 < v6 then
          letT (fun (w13 : Int32) =>
            if v8 = w13 then
              rec x2 x3 (x4 + 1) h
            else
              (fX12_doesWith v6 v7 v8 h).bind (fun b16 =>
              if b16.1 = 0 then
                rec x2 x3 (x4 + 1) b16.2
              else
                if x3 = (-1 : Int32) then
                  letT (x2 + (1 : Int32)) (fun v21 =>
                  rec v21 x4 (x4 + 1) b16.2)
                else
                  letT (x2 + (1 : Int32)) (fun v20 =>
                  rec v20 x3 (x4 + 1) b16.2))) (fun J14 =>
          if v7 = 0 then
            if v6 < 0 ∨ 20 ≤ v6.toNatClampNeg then none else
            J14 (h.1 79 v6.toNatClampNeg)
          else
            if v6 < 0 ∨ 20 ≤ v6.toNatClampNeg then none else
            J14 (h.1 80 v6.toNatClampNeg))
        else
          rec x2 x3 (x4 + 1) h) (fun J11 =>
      if v7 = (1 : Int32) then
        if v6 < 0 ∨ 20 ≤ v6.toNatClampNeg then none else
        if (h.1 80 v6.toNatClampNeg) < 0 then
          rec x2 x3 (x4 + 1) h
        else
          J11
      else
        J11))))
  else
    K158 x2 x3 h
def fX12_referred_l25 (K158 : Int32 → Int32 → AH → Option (Int32 × AH)) (x1 : Int32) : Nat → Int32 → Int32 → Int32 → AH → Option (Int32 × AH)
  | 0, _, _, _, _ => none
  | n + 1, x2, x3, x4, h => fX12_referred_l25b (fX12_referred_l25 K158 x1 n) K158 x1 x2 x3 x4 h
theorem sX12_referred_l25b {rec : Int32 → Int32 → Int32 → AH → Option (Int32 × AH)} {K158 : Int32 → Int32 → AH → Option (Int32 × AH)} {x1 : Int32} (hR : ∀ (x2 : Int32) (x3 : Int32) (x4 : Int32) (h : AH), Sim RX12 cX12_referred 8 (some .int) 5 (Option.map oI) (rec x2 x3 x4 h) 25 [(0, .ref 75), (1, .int x1), (2, .int x2), (3, .int x3), (4, .int x4)] [] h) (hK158 : ∀ (y2 : Int32) (y3 : Int32) (g : AH), Sim RX12 cX12_referred 8 (some .int) 5 (Option.map oI) (K158 y2 y3 g) 158 [(1, .int x1), (2, .int y2), (3, .int y3)] [] g) : ∀ (x2 : Int32) (x3 : Int32) (x4 : Int32) (h : AH), Sim RX12 cX12_referred 8 (some .int) 5 (Option.map oI) (fX12_referred_l25b rec K158 x1 x2 x3 x4 h) 25 [(0, .ref 75), (1, .int x1), (2, .int x2), (3, .int x3), (4, .int x4)] [] h := by
  intro x2 x3 x4 h
  unfold fX12_referred_l25b
  refine sim_iload 4 rfl dX12_referred_25 ?_
  refine sim_bipush (v := 40) (by decide) dX12_referred_27 ?_
  refine sim_aload_n 0 rfl dX12_referred_29 ?_
  refine sim_getI flX12_145 rfl rfl dX12_referred_30 ?_
  refine sim_imul dX12_referred_33 ?_
  refine sim_icmp_ge (tgt := 158) dX12_referred_34 (by decide) (fun c5 => ?_) (fun c5 => ?_)
  · refine sim_sub [1, 2, 3] rfl ?_
    exact hK158 x2 x3 h
  · refine sim_iload 4 rfl dX12_referred_37 ?_
    refine sim_bipush (v := 40) (by decide) dX12_referred_39 ?_
    refine sim_idiv (by decide) dX12_referred_41 ?_
    refine sim_nmI (fun v6 => ?_)
    refine sim_istore (L' := [(5, .int v6), (0, .ref 75), (1, .int x1), (2, .int x2), (3, .int x3), (4, .int x4)]) rfl (by decide) dX12_referred_42 ?_
    refine sim_iload 5 rfl dX12_referred_44 ?_
    refine sim_bipush (v := 20) (by decide) dX12_referred_46 ?_
    refine sim_idiv (by decide) dX12_referred_48 ?_
    refine sim_iconst (v := 2) (by decide) dX12_referred_49 ?_
    refine sim_irem (by decide) dX12_referred_50 ?_
    refine sim_nmI (fun v7 => ?_)
    refine sim_istore (L' := [(6, .int v7), (5, .int v6), (0, .ref 75), (1, .int x1), (2, .int x2), (3, .int x3), (4, .int x4)]) rfl (by decide) dX12_referred_51 ?_
    refine sim_iload 6 rfl dX12_referred_53 ?_
    refine sim_bipush (v := 20) (by decide) dX12_referred_55 ?_
    refine sim_irem (by decide) dX12_referred_57 ?_
    refine sim_nmI (fun v8 => ?_)
    refine sim_istore (L' := [(7, .int v8), (6, .int v7), (5, .int v6), (0, .ref 75), (1, .int x1), (2, .int x2), (3, .int x3), (4, .int x4)]) rfl (by decide) dX12_referred_58 ?_
    refine sim_aload_n 3 rfl dX12_referred_60 ?_
    refine sim_getR flX12_16 rfl rfl dX12_referred_61 ?_
    refine sim_iload 2 rfl dX12_referred_64 ?_
    refine sim_nguard (fun c9 => ?_)
    refine sim_iald rfl c9 dX12_referred_66 ?_
    refine sim_if_eq (tgt := 152) dX12_referred_67 (by decide) (fun c10 => ?_) (fun c10 => ?_)
    · refine sim_iinc (v := x4 + 1) (L' := [(4, .int (x4 + 1)), (7, .int v8), (6, .int v7), (5, .int v6), (0, .ref 75), (1, .int x1), (2, .int x2), (3, .int x3)]) 7 rfl rfl rfl (by decide) dX12_referred_152 ?_
      refine sim_goto (tgt := 25) dX12_referred_155 (by decide) ?_
      refine sim_sub [4, 5, 6, 7, 0] rfl ?_
      exact hR x2 x3 (x4 + 1) h
    · refine sim_iload 1 rfl dX12_referred_70 ?_
      refine sim_iconst (v := 1) (by decide) dX12_referred_72 ?_
      refine sim_letJ (fun J11 => Sim RX12 cX12_referred 8 (some .int) 5 (Option.map oI) (J11) 86 [(0, .ref 75), (1, .int x1), (2, .int x2), (3, .int x3), (4, .int x4), (5, .int v6), (6, .int v7), (7, .int v8)] [] h) (?_) (fun J11 hJ11 => ?_)
      · refine sim_iload 7 rfl dX12_referred_86 ?_
        refine sim_iload 5 rfl dX12_referred_88 ?_
        refine sim_icmp_ge (tgt := 152) dX12_referred_90 (by decide) (fun c12 => ?_) (fun c12 => ?_)
        · refine sim_iinc (v := x4 + 1) (L' := [(4, .int (x4 + 1)), (0, .ref 75), (1, .int x1), (2, .int x2), (3, .int x3), (5, .int v6), (6, .int v7), (7, .int v8)]) 4 rfl rfl rfl (by decide) dX12_referred_152 ?_
          refine sim_goto (tgt := 25) dX12_referred_155 (by decide) ?_
          refine sim_sub [1, 2, 3, 4, 0] rfl ?_
          exact hR x2 x3 (x4 + 1) h
        · refine sim_iload 7 rfl dX12_referred_93 ?_
          refine sim_iload 6 rfl dX12_referred_95 ?_
          refine sim_letJ (fun J14 => ∀ (w13 : Int32), Sim RX12 cX12_referred 8 (some .int) 5 (Option.map oI) (J14 w13) 117 [(0, .ref 75), (1, .int x1), (2, .int x2), (3, .int x3), (4, .int x4), (5, .int v6), (6, .int v7), (7, .int v8)] [.int w13, .int v8] h) (fun w13 => ?_) (fun J14 hJ14 => ?_)
          · refine sim_icmp_eq (tgt := 152) dX12_referred_117 (by decide) (fun c15 => ?_) (fun c15 => ?_)
            · refine sim_iinc (v := x4 + 1) (L' := [(4, .int (x4 + 1)), (0, .ref 75), (1, .int x1), (2, .int x2), (3, .int x3), (5, .int v6), (6, .int v7), (7, .int v8)]) 4 rfl rfl rfl (by decide) dX12_referred_152 ?_
              refine sim_goto (tgt := 25) dX12_referred_155 (by decide) ?_
              refine sim_sub [1, 2, 3, 4, 0] rfl ?_
              exact hR x2 x3 (x4 + 1) h
            · refine sim_aload_n 0 rfl dX12_referred_120 ?_
              refine sim_iload 5 rfl dX12_referred_121 ?_
              refine sim_iload 6 rfl dX12_referred_123 ?_
              refine sim_iload 7 rfl dX12_referred_125 ?_
              refine sim_bind (fun b16 e17 => ?_)
              refine sim_cV (As := [.int v6, .int v7, .int v8]) (st := []) (r := (some (.int b16.1))) (h1 := b16.2) (okX12_doesWith v6 v7 v8 h b16 e17) (fun _ => rfl) mlX12_235 mtX12_doesWith rfl rfl rfl rfl (Nat.le_of_ble_eq_true rfl) rfl (Nat.le_of_ble_eq_true rfl) dX12_referred_127 ?_
              refine sim_if_ne (tgt := 136) dX12_referred_130 (by decide) (fun c18 => ?_) (fun c18 => ?_)
              · refine sim_iload_n 3 rfl dX12_referred_136 ?_
                refine sim_iconst (v := -1) (by decide) dX12_referred_137 ?_
                refine sim_icmp_ne (tgt := 146) dX12_referred_138 (by decide) (fun c19 => ?_) (fun c19 => ?_)
                · refine sim_iload_n 3 rfl dX12_referred_146 ?_
                  refine sim_istore_n (L' := [(3, .int x3), (0, .ref 75), (1, .int x1), (2, .int x2), (4, .int x4), (5, .int v6), (6, .int v7), (7, .int v8)]) rfl (by decide) dX12_referred_147 ?_
                  refine sim_iload_n 3 rfl dX12_referred_148 ?_
                  refine sim_iconst (v := 1) (by decide) dX12_referred_149 ?_
                  refine sim_iadd dX12_referred_150 ?_
                  refine sim_nmI (fun v20 => ?_)
                  refine sim_istore_n (L' := [(2, .int v20), (3, .int x3), (0, .ref 75), (1, .int x1), (4, .int x4), (5, .int v6), (6, .int v7), (7, .int v8)]) rfl (by decide) dX12_referred_151 ?_
                  refine sim_iinc (v := x4 + 1) (L' := [(4, .int (x4 + 1)), (2, .int v20), (3, .int x3), (0, .ref 75), (1, .int x1), (5, .int v6), (6, .int v7), (7, .int v8)]) 4 rfl rfl rfl (by decide) dX12_referred_152 ?_
                  refine sim_goto (tgt := 25) dX12_referred_155 (by decide) ?_
                  refine sim_sub [3, 4, 1, 2, 0] rfl ?_
                  exact hR v20 x3 (x4 + 1) b16.2
                · refine sim_iload 4 rfl dX12_referred_141 ?_
                  refine sim_goto (tgt := 147) dX12_referred_143 (by decide) ?_
                  refine sim_istore_n (L' := [(3, .int x4), (0, .ref 75), (1, .int x1), (2, .int x2), (4, .int x4), (5, .int v6), (6, .int v7), (7, .int v8)]) rfl (by decide) dX12_referred_147 ?_
                  refine sim_iload_n 3 rfl dX12_referred_148 ?_
                  refine sim_iconst (v := 1) (by decide) dX12_referred_149 ?_
                  refine sim_iadd dX12_referred_150 ?_
                  refine sim_nmI (fun v21 => ?_)
                  refine sim_istore_n (L' := [(2, .int v21), (3, .int x4), (0, .ref 75), (1, .int x1), (4, .int x4), (5, .int v6), (6, .int v7), (7, .int v8)]) rfl (by decide) dX12_referred_151 ?_
                  refine sim_iinc (v := x4 + 1) (L' := [(4, .int (x4 + 1)), (2, .int v21), (3, .int x4), (0, .ref 75), (1, .int x1), (5, .int v6), (6, .int v7), (7, .int v8)]) 4 rfl rfl rfl (by decide) dX12_referred_152 ?_
                  refine sim_goto (tgt := 25) dX12_referred_155 (by decide) ?_
                  refine sim_sub [3, 4, 1, 2, 0] rfl ?_
                  exact hR v21 x4 (x4 + 1) b16.2
              · refine sim_goto (tgt := 152) dX12_referred_133 (by decide) ?_
                refine sim_iinc (v := x4 + 1) (L' := [(4, .int (x4 + 1)), (0, .ref 75), (1, .int x1), (2, .int x2), (3, .int x3), (5, .int v6), (6, .int v7), (7, .int v8)]) 4 rfl rfl rfl (by decide) dX12_referred_152 ?_
                refine sim_goto (tgt := 25) dX12_referred_155 (by decide) ?_
                refine sim_sub [1, 2, 3, 4, 0] rfl ?_
                exact hR x2 x3 (x4 + 1) b16.2
          refine sim_if_ne (tgt := 110) dX12_referred_97 (by decide) (fun c22 => ?_) (fun c22 => ?_)
          · refine sim_aload_n 0 rfl dX12_referred_110 ?_
            refine sim_getR flX12_22 rfl rfl dX12_referred_111 ?_
            refine sim_iload 5 rfl dX12_referred_114 ?_
            refine sim_nguard (fun c23 => ?_)
            refine sim_iald rfl c23 dX12_referred_116 ?_
            exact hJ14 (h.1 80 v6.toNatClampNeg)
          · refine sim_aload_n 0 rfl dX12_referred_100 ?_
            refine sim_getR flX12_19 rfl rfl dX12_referred_101 ?_
            refine sim_iload 5 rfl dX12_referred_104 ?_
            refine sim_nguard (fun c24 => ?_)
            refine sim_iald rfl c24 dX12_referred_106 ?_
            refine sim_goto (tgt := 117) dX12_referred_107 (by decide) ?_
            exact hJ14 (h.1 79 v6.toNatClampNeg)
      refine sim_icmp_ne (tgt := 86) dX12_referred_73 (by decide) (fun c25 => ?_) (fun c25 => ?_)
      · refine sim_sub [3, 4, 5, 6, 7, 2, 1, 0] rfl ?_
        exact hJ11
      · refine sim_aload_n 3 rfl dX12_referred_76 ?_
        refine sim_getR flX12_22 rfl rfl dX12_referred_77 ?_
        refine sim_iload 2 rfl dX12_referred_80 ?_
        refine sim_nguard (fun c26 => ?_)
        refine sim_iald rfl c26 dX12_referred_82 ?_
        refine sim_if_lt (tgt := 152) dX12_referred_83 (by decide) (fun c27 => ?_) (fun c27 => ?_)
        · refine sim_iinc (v := x4 + 1) (L' := [(4, .int (x4 + 1)), (7, .int v8), (6, .int v7), (5, .int v6), (0, .ref 75), (1, .int x1), (2, .int x2), (3, .int x3)]) 7 rfl rfl rfl (by decide) dX12_referred_152 ?_
          refine sim_goto (tgt := 25) dX12_referred_155 (by decide) ?_
          refine sim_sub [4, 5, 6, 7, 0] rfl ?_
          exact hR x2 x3 (x4 + 1) h
        · refine sim_sub [3, 4, 5, 6, 7, 2, 1, 0] rfl ?_
          exact hJ11
theorem sX12_referred_l25 {K158 : Int32 → Int32 → AH → Option (Int32 × AH)} {x1 : Int32} (hK158 : ∀ (y2 : Int32) (y3 : Int32) (g : AH), Sim RX12 cX12_referred 8 (some .int) 5 (Option.map oI) (K158 y2 y3 g) 158 [(1, .int x1), (2, .int y2), (3, .int y3)] [] g) : ∀ (n : Nat) (x2 : Int32) (x3 : Int32) (x4 : Int32) (h : AH), Sim RX12 cX12_referred 8 (some .int) 5 (Option.map oI) (fX12_referred_l25 K158 x1 n x2 x3 x4 h) 25 [(0, .ref 75), (1, .int x1), (2, .int x2), (3, .int x3), (4, .int x4)] [] h := by
  intro n
  induction n with
  | zero => intro x2 x3 x4 h; exact sim_none
  | succ n ih => intro x2 x3 x4 h; exact sX12_referred_l25b ih hK158 x2 x3 x4 h
def fX12_referred (p1 : Int32) (h : AH) : Option (Int32 × AH) :=
  if (fX12_in p1 (0 : Int32) (3 : Int32) h) = 0 then
    some ((-1 : Int32), h)
  else
    (fX12_wrong h).bind (fun b2 =>
    if b2 = 0 then
      some ((-1 : Int32), h)
    else
      fX12_referred_l25 (fun (y28 : Int32) (y29 : Int32) (g30 : AH) =>
        if p1 = 0 then
          some (y28, g30)
        else
          if y29 = (-1 : Int32) then
            some ((-2 : Int32), g30)
          else
            if p1 = (1 : Int32) then
              some (y29 / (40 : Int32), g30)
            else
              if p1 = (2 : Int32) then
                some (jrem (y29 / (20 : Int32)) (2 : Int32), g30)
              else
                some (jrem y29 (20 : Int32), g30)) p1 fuel0 (0 : Int32) (-1 : Int32) (0 : Int32) h)
theorem sX12_referred (p1 : Int32) (h : AH) : Sim RX12 cX12_referred 8 (some .int) 5 (Option.map oI) (fX12_referred p1 h) 0 [(0, .ref 75), (1, .int p1)] [] h := by
  unfold fX12_referred
  refine sim_iload_n 1 rfl dX12_referred_0 ?_
  refine sim_iconst (v := 0) (by decide) dX12_referred_1 ?_
  refine sim_iconst (v := 3) (by decide) dX12_referred_2 ?_
  refine sim_cS (As := [.int p1, .int (0 : Int32), .int (3 : Int32)]) (st := []) (r := (some (.int (fX12_in p1 (0 : Int32) (3 : Int32) h)))) (h1 := h) (okX12_in p1 (0 : Int32) (3 : Int32) h) (fun _ => rfl) mlX12_141 mtX12_in rfl (Nat.le_of_ble_eq_true rfl) rfl (Nat.le_of_ble_eq_true rfl) dX12_referred_3 ?_
  refine sim_if_eq (tgt := 16) dX12_referred_6 (by decide) (fun c1 => ?_) (fun c1 => ?_)
  · refine sim_iconst (v := -1) (by decide) dX12_referred_16 ?_
    exact sim_iret rfl rfl dX12_referred_17
  · refine sim_aload_n 0 rfl dX12_referred_9 ?_
    refine sim_bind (fun b2 e3 => ?_)
    refine sim_cV (As := []) (st := []) (r := (some (.int b2))) (h1 := h) (okX12_wrong h b2 e3) (fun _ => rfl) mlX12_232 mtX12_wrong rfl rfl rfl rfl (Nat.le_of_ble_eq_true rfl) rfl (Nat.le_of_ble_eq_true rfl) dX12_referred_10 ?_
    refine sim_if_ne (tgt := 18) dX12_referred_13 (by decide) (fun c4 => ?_) (fun c4 => ?_)
    · refine sim_iconst (v := 0) (by decide) dX12_referred_18 ?_
      refine sim_istore_n (L' := [(2, .int (0 : Int32)), (0, .ref 75), (1, .int p1)]) rfl (by decide) dX12_referred_19 ?_
      refine sim_iconst (v := -1) (by decide) dX12_referred_20 ?_
      refine sim_istore_n (L' := [(3, .int (-1 : Int32)), (2, .int (0 : Int32)), (0, .ref 75), (1, .int p1)]) rfl (by decide) dX12_referred_21 ?_
      refine sim_iconst (v := 0) (by decide) dX12_referred_22 ?_
      refine sim_istore (L' := [(4, .int (0 : Int32)), (3, .int (-1 : Int32)), (2, .int (0 : Int32)), (0, .ref 75), (1, .int p1)]) rfl (by decide) dX12_referred_23 ?_
      refine sim_sub [3, 4, 2, 1, 0] rfl ?_
      refine sX12_referred_l25 (fun y28 y29 g30 => ?_) _ (0 : Int32) (-1 : Int32) (0 : Int32) h
      · refine sim_iload_n 0 rfl dX12_referred_158 ?_
        refine sim_if_ne (tgt := 164) dX12_referred_159 (by decide) (fun c31 => ?_) (fun c31 => ?_)
        · refine sim_iload_n 2 rfl dX12_referred_164 ?_
          refine sim_iconst (v := -1) (by decide) dX12_referred_165 ?_
          refine sim_icmp_ne (tgt := 174) dX12_referred_166 (by decide) (fun c32 => ?_) (fun c32 => ?_)
          · refine sim_iload_n 0 rfl dX12_referred_174 ?_
            refine sim_iconst (v := 1) (by decide) dX12_referred_175 ?_
            refine sim_icmp_ne (tgt := 186) dX12_referred_176 (by decide) (fun c33 => ?_) (fun c33 => ?_)
            · refine sim_iload_n 0 rfl dX12_referred_186 ?_
              refine sim_iconst (v := 2) (by decide) dX12_referred_187 ?_
              refine sim_icmp_ne (tgt := 200) dX12_referred_188 (by decide) (fun c34 => ?_) (fun c34 => ?_)
              · refine sim_iload_n 2 rfl dX12_referred_200 ?_
                refine sim_bipush (v := 20) (by decide) dX12_referred_201 ?_
                refine sim_irem (by decide) dX12_referred_203 ?_
                exact sim_iret rfl rfl dX12_referred_204
              · refine sim_iload_n 2 rfl dX12_referred_191 ?_
                refine sim_bipush (v := 20) (by decide) dX12_referred_192 ?_
                refine sim_idiv (by decide) dX12_referred_194 ?_
                refine sim_iconst (v := 2) (by decide) dX12_referred_195 ?_
                refine sim_irem (by decide) dX12_referred_196 ?_
                refine sim_goto (tgt := 204) dX12_referred_197 (by decide) ?_
                exact sim_iret rfl rfl dX12_referred_204
            · refine sim_iload_n 2 rfl dX12_referred_179 ?_
              refine sim_bipush (v := 40) (by decide) dX12_referred_180 ?_
              refine sim_idiv (by decide) dX12_referred_182 ?_
              refine sim_goto (tgt := 204) dX12_referred_183 (by decide) ?_
              exact sim_iret rfl rfl dX12_referred_204
          · refine sim_bipush (v := -2) (by decide) dX12_referred_169 ?_
            refine sim_goto (tgt := 204) dX12_referred_171 (by decide) ?_
            exact sim_iret rfl rfl dX12_referred_204
        · refine sim_iload_n 1 rfl dX12_referred_162 ?_
          exact sim_iret rfl rfl dX12_referred_163
    · refine sim_iconst (v := -1) (by decide) dX12_referred_16 ?_
      exact sim_iret rfl rfl dX12_referred_17
theorem okX12_referred (p1 : Int32) (h : AH) (b : Int32 × AH) (e : fX12_referred p1 h = some b) : Ok yX12_referred cX12_referred 8 (some .int) 5 [.ref 75, .int p1] h (some (.int b.1), b.2) := ok_of (sX12_referred p1 h) (by rw [e]; rfl) (by decide +kernel) (Nat.le_of_ble_eq_true rfl)
def fX12_opens (p1 : Int32) (h : AH) : Option (Int32 × AH) :=
  if (h.1 75 24) = (6 : Int32) then
    letT (fX12_wrongAt (5 : Int32) (h.1 75 11) h) (fun b7 =>
    if b7.1 = 0 ∨ b7.1 = 1 then some (b7.1, b7.2) else none)
  else
    letT (sI h 75 24 ((h.1 75 24) + (1 : Int32))) (fun g2 =>
    if (g2.1 75 26) < 0 ∨ 220 ≤ (g2.1 75 26).toNatClampNeg then none else
    letT (sI g2 92 (g2.1 75 26).toNatClampNeg ((1048576 : Int32) * p1)) (fun g4 =>
    letT (sI g4 75 26 ((g4.1 75 26) + (1 : Int32))) (fun g5 =>
    letT (sI g5 75 11 ((g5.1 75 11) + (1 : Int32))) (fun g6 =>
    some ((1 : Int32), g6)))))
theorem sX12_opens (p1 : Int32) (h : AH) : Sim RX12 cX12_opens 2 (some .boolean) 2 (Option.map oI) (fX12_opens p1 h) 0 [(0, .ref 75), (1, .int p1)] [] h := by
  unfold fX12_opens
  refine sim_aload_n 0 rfl dX12_opens_0 ?_
  refine sim_getI flX12_242 rfl rfl dX12_opens_1 ?_
  refine sim_bipush (v := 6) (by decide) dX12_opens_4 ?_
  refine sim_icmp_ne (tgt := 19) dX12_opens_6 (by decide) (fun c1 => ?_) (fun c1 => ?_)
  · refine sim_aload_n 0 rfl dX12_opens_19 ?_
    refine sim_aload_n 0 rfl dX12_opens_20 ?_
    refine sim_getI flX12_242 rfl rfl dX12_opens_21 ?_
    refine sim_iconst (v := 1) (by decide) dX12_opens_24 ?_
    refine sim_iadd dX12_opens_25 ?_
    refine sim_putI fpX12_242 rfl rfl rfl rfl dX12_opens_26 ?_
    refine sim_nmH (fun g2 => ?_)
    refine sim_aload_n 0 rfl dX12_opens_29 ?_
    refine sim_getR flX12_59 rfl rfl dX12_opens_30 ?_
    refine sim_aload_n 0 rfl dX12_opens_33 ?_
    refine sim_getI flX12_245 rfl rfl dX12_opens_34 ?_
    refine sim_ldc kcX12_241 dX12_opens_37 ?_
    refine sim_iload_n 1 rfl dX12_opens_39 ?_
    refine sim_imul dX12_opens_40 ?_
    refine sim_nguard (fun c3 => ?_)
    refine sim_iast rfl c3 dX12_opens_41 ?_
    refine sim_nmH (fun g4 => ?_)
    refine sim_aload_n 0 rfl dX12_opens_42 ?_
    refine sim_aload_n 0 rfl dX12_opens_43 ?_
    refine sim_getI flX12_245 rfl rfl dX12_opens_44 ?_
    refine sim_iconst (v := 1) (by decide) dX12_opens_47 ?_
    refine sim_iadd dX12_opens_48 ?_
    refine sim_putI fpX12_245 rfl rfl rfl rfl dX12_opens_49 ?_
    refine sim_nmH (fun g5 => ?_)
    refine sim_aload_n 0 rfl dX12_opens_52 ?_
    refine sim_aload_n 0 rfl dX12_opens_53 ?_
    refine sim_getI flX12_155 rfl rfl dX12_opens_54 ?_
    refine sim_iconst (v := 1) (by decide) dX12_opens_57 ?_
    refine sim_iadd dX12_opens_58 ?_
    refine sim_putI fpX12_155 rfl rfl rfl rfl dX12_opens_59 ?_
    refine sim_nmH (fun g6 => ?_)
    refine sim_iconst (v := 1) (by decide) dX12_opens_62 ?_
    exact sim_zret rfl rfl rfl dX12_opens_63
  · refine sim_aload_n 0 rfl dX12_opens_9 ?_
    refine sim_iconst (v := 5) (by decide) dX12_opens_10 ?_
    refine sim_aload_n 0 rfl dX12_opens_11 ?_
    refine sim_getI flX12_155 rfl rfl dX12_opens_12 ?_
    refine sim_cV (As := [.int (5 : Int32), .int (h.1 75 11)]) (st := []) (r := (some (.int ((fX12_wrongAt (5 : Int32) (h.1 75 11) h).1)))) (h1 := (fX12_wrongAt (5 : Int32) (h.1 75 11) h).2) (okX12_wrongAt (5 : Int32) (h.1 75 11) h) (fun _ => rfl) mlX12_169 mtX12_wrongAt rfl rfl rfl rfl (Nat.le_of_ble_eq_true rfl) rfl (Nat.le_of_ble_eq_true rfl) dX12_opens_15 ?_
    refine sim_nmP (fun b7 => ?_)
    refine sim_guard (fun c8 => ?_)
    exact sim_zret rfl (nar_b c8) rfl dX12_opens_18
theorem okX12_opens (p1 : Int32) (h : AH) (b : Int32 × AH) (e : fX12_opens p1 h = some b) : Ok yX12_opens cX12_opens 2 (some .boolean) 2 [.ref 75, .int p1] h (some (.int b.1), b.2) := ok_of (sX12_opens p1 h) (by rw [e]; rfl) (by decide +kernel) (Nat.le_of_ble_eq_true rfl)
def fX12_factOf (p0 : Int32) (h : AH) : Int32 :=
  if p0 = 100 then
    (3 : Int32)
  else
  if p0 = 101 then
    (-1 : Int32)
  else
  if p0 = 102 then
    (-1 : Int32)
  else
  if p0 = 103 then
    (-1 : Int32)
  else
  if p0 = 104 then
    (7 : Int32)
  else
  if p0 = 105 then
    (0 : Int32)
  else
  if p0 = 106 then
    (-1 : Int32)
  else
  if p0 = 107 then
    (1 : Int32)
  else
  if p0 = 108 then
    (5 : Int32)
  else
  if p0 = 109 then
    (6 : Int32)
  else
  if p0 = 110 then
    (-1 : Int32)
  else
  if p0 = 111 then
    (-1 : Int32)
  else
  if p0 = 112 then
    (-1 : Int32)
  else
  if p0 = 113 then
    (-1 : Int32)
  else
  if p0 = 114 then
    (-1 : Int32)
  else
  if p0 = 115 then
    (-1 : Int32)
  else
  if p0 = 116 then
    (-1 : Int32)
  else
  if p0 = 117 then
    (4 : Int32)
  else
  if p0 = 118 then
    (2 : Int32)
  else
  (-1 : Int32)
theorem sX12_factOf (p0 : Int32) (h : AH) : Sim RX12 cX12_factOf 1 (some .int) 1 (tI h) (fX12_factOf p0 h) 0 [(0, .int p0)] [] h := by
  unfold fX12_factOf
  refine sim_iload_n 0 rfl dX12_factOf_0 ?_
  refine sim_case (v := 100) (tgt := 98) (100) dX12_factOf_1 (by decide) (by decide) (by decide) rfl (by decide) ?_ (fun c1 => ?_)
  · refine sim_iconst (v := 3) (by decide) dX12_factOf_98 ?_
    exact sim_iret rfl rfl dX12_factOf_99
  refine sim_case (v := 101) (tgt := 110) (101) dX12_factOf_1 (by decide) (by decide) (by decide) rfl (by decide) ?_ (fun c2 => ?_)
  · refine sim_iconst (v := -1) (by decide) dX12_factOf_110 ?_
    exact sim_iret rfl rfl dX12_factOf_111
  refine sim_case (v := 102) (tgt := 110) (102) dX12_factOf_1 (by decide) (by decide) (by decide) rfl (by decide) ?_ (fun c3 => ?_)
  · refine sim_iconst (v := -1) (by decide) dX12_factOf_110 ?_
    exact sim_iret rfl rfl dX12_factOf_111
  refine sim_case (v := 103) (tgt := 110) (103) dX12_factOf_1 (by decide) (by decide) (by decide) rfl (by decide) ?_ (fun c4 => ?_)
  · refine sim_iconst (v := -1) (by decide) dX12_factOf_110 ?_
    exact sim_iret rfl rfl dX12_factOf_111
  refine sim_case (v := 104) (tgt := 107) (104) dX12_factOf_1 (by decide) (by decide) (by decide) rfl (by decide) ?_ (fun c5 => ?_)
  · refine sim_bipush (v := 7) (by decide) dX12_factOf_107 ?_
    exact sim_iret rfl rfl dX12_factOf_109
  refine sim_case (v := 105) (tgt := 92) (105) dX12_factOf_1 (by decide) (by decide) (by decide) rfl (by decide) ?_ (fun c6 => ?_)
  · refine sim_iconst (v := 0) (by decide) dX12_factOf_92 ?_
    exact sim_iret rfl rfl dX12_factOf_93
  refine sim_case (v := 106) (tgt := 110) (106) dX12_factOf_1 (by decide) (by decide) (by decide) rfl (by decide) ?_ (fun c7 => ?_)
  · refine sim_iconst (v := -1) (by decide) dX12_factOf_110 ?_
    exact sim_iret rfl rfl dX12_factOf_111
  refine sim_case (v := 107) (tgt := 94) (107) dX12_factOf_1 (by decide) (by decide) (by decide) rfl (by decide) ?_ (fun c8 => ?_)
  · refine sim_iconst (v := 1) (by decide) dX12_factOf_94 ?_
    exact sim_iret rfl rfl dX12_factOf_95
  refine sim_case (v := 108) (tgt := 102) (108) dX12_factOf_1 (by decide) (by decide) (by decide) rfl (by decide) ?_ (fun c9 => ?_)
  · refine sim_iconst (v := 5) (by decide) dX12_factOf_102 ?_
    exact sim_iret rfl rfl dX12_factOf_103
  refine sim_case (v := 109) (tgt := 104) (109) dX12_factOf_1 (by decide) (by decide) (by decide) rfl (by decide) ?_ (fun c10 => ?_)
  · refine sim_bipush (v := 6) (by decide) dX12_factOf_104 ?_
    exact sim_iret rfl rfl dX12_factOf_106
  refine sim_case (v := 110) (tgt := 110) (110) dX12_factOf_1 (by decide) (by decide) (by decide) rfl (by decide) ?_ (fun c11 => ?_)
  · refine sim_iconst (v := -1) (by decide) dX12_factOf_110 ?_
    exact sim_iret rfl rfl dX12_factOf_111
  refine sim_case (v := 111) (tgt := 110) (111) dX12_factOf_1 (by decide) (by decide) (by decide) rfl (by decide) ?_ (fun c12 => ?_)
  · refine sim_iconst (v := -1) (by decide) dX12_factOf_110 ?_
    exact sim_iret rfl rfl dX12_factOf_111
  refine sim_case (v := 112) (tgt := 110) (112) dX12_factOf_1 (by decide) (by decide) (by decide) rfl (by decide) ?_ (fun c13 => ?_)
  · refine sim_iconst (v := -1) (by decide) dX12_factOf_110 ?_
    exact sim_iret rfl rfl dX12_factOf_111
  refine sim_case (v := 113) (tgt := 110) (113) dX12_factOf_1 (by decide) (by decide) (by decide) rfl (by decide) ?_ (fun c14 => ?_)
  · refine sim_iconst (v := -1) (by decide) dX12_factOf_110 ?_
    exact sim_iret rfl rfl dX12_factOf_111
  refine sim_case (v := 114) (tgt := 110) (114) dX12_factOf_1 (by decide) (by decide) (by decide) rfl (by decide) ?_ (fun c15 => ?_)
  · refine sim_iconst (v := -1) (by decide) dX12_factOf_110 ?_
    exact sim_iret rfl rfl dX12_factOf_111
  refine sim_case (v := 115) (tgt := 110) (115) dX12_factOf_1 (by decide) (by decide) (by decide) rfl (by decide) ?_ (fun c16 => ?_)
  · refine sim_iconst (v := -1) (by decide) dX12_factOf_110 ?_
    exact sim_iret rfl rfl dX12_factOf_111
  refine sim_case (v := 116) (tgt := 110) (116) dX12_factOf_1 (by decide) (by decide) (by decide) rfl (by decide) ?_ (fun c17 => ?_)
  · refine sim_iconst (v := -1) (by decide) dX12_factOf_110 ?_
    exact sim_iret rfl rfl dX12_factOf_111
  refine sim_case (v := 117) (tgt := 100) (117) dX12_factOf_1 (by decide) (by decide) (by decide) rfl (by decide) ?_ (fun c18 => ?_)
  · refine sim_iconst (v := 4) (by decide) dX12_factOf_100 ?_
    exact sim_iret rfl rfl dX12_factOf_101
  refine sim_case (v := 118) (tgt := 96) (118) dX12_factOf_1 (by decide) (by decide) (by decide) rfl (by decide) ?_ (fun c19 => ?_)
  · refine sim_iconst (v := 2) (by decide) dX12_factOf_96 ?_
    exact sim_iret rfl rfl dX12_factOf_97
  refine sim_dflt (tgt := 110) dX12_factOf_1 (by omega) (by decide) ?_
  refine sim_iconst (v := -1) (by decide) dX12_factOf_110 ?_
  exact sim_iret rfl rfl dX12_factOf_111
theorem okX12_factOf (p0 : Int32) (h : AH) : Ok yX12_factOf cX12_factOf 1 (some .int) 1 [.int p0] h (some (.int (fX12_factOf p0 h)), h) := ok_of (sX12_factOf p0 h) rfl (by decide +kernel) (Nat.le_of_ble_eq_true rfl)
def fX12_notes (p1 : Int32) (p2 : Int32) (h : AH) : Option AH :=
  if (h.1 75 25) < 0 ∨ 220 ≤ (h.1 75 25).toNatClampNeg then none else
  letT (sI h 91 (h.1 75 25).toNatClampNeg (((1048576 : Int32) * p1) + p2)) (fun g2 =>
  letT (sI g2 75 25 ((g2.1 75 25) + (1 : Int32))) (fun g3 =>
  some g3))
theorem sX12_notes (p1 : Int32) (p2 : Int32) (h : AH) : Sim RX12 cX12_notes 3 none 1 (Option.map oV) (fX12_notes p1 p2 h) 0 [(0, .ref 75), (1, .int p1), (2, .int p2)] [] h := by
  unfold fX12_notes
  refine sim_aload_n 0 rfl dX12_notes_0 ?_
  refine sim_getR flX12_56 rfl rfl dX12_notes_1 ?_
  refine sim_aload_n 0 rfl dX12_notes_4 ?_
  refine sim_getI flX12_238 rfl rfl dX12_notes_5 ?_
  refine sim_ldc kcX12_241 dX12_notes_8 ?_
  refine sim_iload_n 1 rfl dX12_notes_10 ?_
  refine sim_imul dX12_notes_11 ?_
  refine sim_iload_n 2 rfl dX12_notes_12 ?_
  refine sim_iadd dX12_notes_13 ?_
  refine sim_nguard (fun c1 => ?_)
  refine sim_iast rfl c1 dX12_notes_14 ?_
  refine sim_nmH (fun g2 => ?_)
  refine sim_aload_n 0 rfl dX12_notes_15 ?_
  refine sim_aload_n 0 rfl dX12_notes_16 ?_
  refine sim_getI flX12_238 rfl rfl dX12_notes_17 ?_
  refine sim_iconst (v := 1) (by decide) dX12_notes_20 ?_
  refine sim_iadd dX12_notes_21 ?_
  refine sim_putI fpX12_238 rfl rfl rfl rfl dX12_notes_22 ?_
  refine sim_nmH (fun g3 => ?_)
  exact sim_vret rfl rfl dX12_notes_25
theorem okX12_notes (p1 : Int32) (p2 : Int32) (h : AH) (b : AH) (e : fX12_notes p1 p2 h = some b) : Ok yX12_notes cX12_notes 3 none 1 [.ref 75, .int p1, .int p2] h (none, b) := ok_of (sX12_notes p1 p2 h) (by rw [e]; rfl) (by decide +kernel) (Nat.le_of_ble_eq_true rfl)
def fX12_readsNumber_l10b (rec : AH → Option (Int32 × AH)) (K27 : AH → Option (Int32 × AH)) (x1 : Int32) (h : AH) : Option (Int32 × AH) :=
  (fX12_isDigit h).bind (fun b2 =>
  if b2 = 0 then
    some ((1 : Int32), h)
  else
    if (h.1 75 11) = (x1 + (5 : Int32)) then
      K27 h
    else
      (fX12_here h).bind (fun b6 =>
      letT (sI h 75 14 ((((10 : Int32) * (h.1 75 14)) + b6) - (48 : Int32))) (fun g8 =>
      letT (sI g8 75 11 ((g8.1 75 11) + (1 : Int32))) (fun g9 =>
      rec g9))))
def fX12_readsNumber_l10 (K27 : AH → Option (Int32 × AH)) (x1 : Int32) : Nat → AH → Option (Int32 × AH)
  | 0, _ => none
  | n + 1, h => fX12_readsNumber_l10b (fX12_readsNumber_l10 K27 x1 n) K27 x1 h
theorem sX12_readsNumber_l10b {rec : AH → Option (Int32 × AH)} {K27 : AH → Option (Int32 × AH)} {x1 : Int32} (hR : ∀ (h : AH), Sim RX12 cX12_readsNumber 2 (some .boolean) 3 (Option.map oI) (rec h) 10 [(0, .ref 75), (1, .int x1)] [] h) (hK27 : ∀ (g : AH), Sim RX12 cX12_readsNumber 2 (some .boolean) 3 (Option.map oI) (K27 g) 27 [(0, .ref 75)] [] g) : ∀ (h : AH), Sim RX12 cX12_readsNumber 2 (some .boolean) 3 (Option.map oI) (fX12_readsNumber_l10b rec K27 x1 h) 10 [(0, .ref 75), (1, .int x1)] [] h := by
  intro h
  unfold fX12_readsNumber_l10b
  refine sim_aload_n 0 rfl dX12_readsNumber_10 ?_
  refine sim_bind (fun b2 e3 => ?_)
  refine sim_cV (As := []) (st := []) (r := (some (.int b2))) (h1 := h) (okX12_isDigit h b2 e3) (fun _ => rfl) mlX12_161 mtX12_isDigit rfl rfl rfl rfl (Nat.le_of_ble_eq_true rfl) rfl (Nat.le_of_ble_eq_true rfl) dX12_readsNumber_11 ?_
  refine sim_if_eq (tgt := 69) dX12_readsNumber_14 (by decide) (fun c4 => ?_) (fun c4 => ?_)
  · refine sim_iconst (v := 1) (by decide) dX12_readsNumber_69 ?_
    exact sim_zret rfl rfl rfl dX12_readsNumber_70
  · refine sim_aload_n 0 rfl dX12_readsNumber_17 ?_
    refine sim_getI flX12_155 rfl rfl dX12_readsNumber_18 ?_
    refine sim_iload_n 1 rfl dX12_readsNumber_21 ?_
    refine sim_iconst (v := 5) (by decide) dX12_readsNumber_22 ?_
    refine sim_iadd dX12_readsNumber_23 ?_
    refine sim_icmp_ne (tgt := 37) dX12_readsNumber_24 (by decide) (fun c5 => ?_) (fun c5 => ?_)
    · refine sim_aload_n 0 rfl dX12_readsNumber_37 ?_
      refine sim_bipush (v := 10) (by decide) dX12_readsNumber_38 ?_
      refine sim_aload_n 0 rfl dX12_readsNumber_40 ?_
      refine sim_getI flX12_158 rfl rfl dX12_readsNumber_41 ?_
      refine sim_imul dX12_readsNumber_44 ?_
      refine sim_aload_n 0 rfl dX12_readsNumber_45 ?_
      refine sim_bind (fun b6 e7 => ?_)
      refine sim_cV (As := []) (st := [.int ((10 : Int32) * (h.1 75 14)), .ref 75]) (r := (some (.int b6))) (h1 := h) (okX12_here h b6 e7) (fun _ => rfl) mlX12_165 mtX12_here rfl rfl rfl rfl (Nat.le_of_ble_eq_true rfl) rfl (Nat.le_of_ble_eq_true rfl) dX12_readsNumber_46 ?_
      refine sim_iadd dX12_readsNumber_49 ?_
      refine sim_bipush (v := 48) (by decide) dX12_readsNumber_50 ?_
      refine sim_isub dX12_readsNumber_52 ?_
      refine sim_putI fpX12_158 rfl rfl rfl rfl dX12_readsNumber_53 ?_
      refine sim_nmH (fun g8 => ?_)
      refine sim_aload_n 0 rfl dX12_readsNumber_56 ?_
      refine sim_aload_n 0 rfl dX12_readsNumber_57 ?_
      refine sim_getI flX12_155 rfl rfl dX12_readsNumber_58 ?_
      refine sim_iconst (v := 1) (by decide) dX12_readsNumber_61 ?_
      refine sim_iadd dX12_readsNumber_62 ?_
      refine sim_putI fpX12_155 rfl rfl rfl rfl dX12_readsNumber_63 ?_
      refine sim_nmH (fun g9 => ?_)
      refine sim_goto (tgt := 10) dX12_readsNumber_66 (by decide) ?_
      exact hR g9
    · refine sim_sub [0] rfl ?_
      exact hK27 h
theorem sX12_readsNumber_l10 {K27 : AH → Option (Int32 × AH)} {x1 : Int32} (hK27 : ∀ (g : AH), Sim RX12 cX12_readsNumber 2 (some .boolean) 3 (Option.map oI) (K27 g) 27 [(0, .ref 75)] [] g) : ∀ (n : Nat) (h : AH), Sim RX12 cX12_readsNumber 2 (some .boolean) 3 (Option.map oI) (fX12_readsNumber_l10 K27 x1 n h) 10 [(0, .ref 75), (1, .int x1)] [] h := by
  intro n
  induction n with
  | zero => intro h; exact sim_none
  | succ n ih => intro h; exact sX12_readsNumber_l10b ih hK27 h
def fX12_readsNumber (h : AH) : Option (Int32 × AH) :=
  letT (sI h 75 14 (0 : Int32)) (fun g1 =>
  fX12_readsNumber_l10 (fun (g10 : AH) =>
    letT (fX12_wrongAt (2 : Int32) (g10.1 75 11) g10) (fun b11 =>
    if b11.1 = 0 ∨ b11.1 = 1 then some (b11.1, b11.2) else none)) (h.1 75 11) fuel0 g1)
theorem sX12_readsNumber (h : AH) : Sim RX12 cX12_readsNumber 2 (some .boolean) 3 (Option.map oI) (fX12_readsNumber h) 0 [(0, .ref 75)] [] h := by
  unfold fX12_readsNumber
  refine sim_aload_n 0 rfl dX12_readsNumber_0 ?_
  refine sim_getI flX12_155 rfl rfl dX12_readsNumber_1 ?_
  refine sim_istore_n (L' := [(1, .int (h.1 75 11)), (0, .ref 75)]) rfl (by decide) dX12_readsNumber_4 ?_
  refine sim_aload_n 1 rfl dX12_readsNumber_5 ?_
  refine sim_iconst (v := 0) (by decide) dX12_readsNumber_6 ?_
  refine sim_putI fpX12_158 rfl rfl rfl rfl dX12_readsNumber_7 ?_
  refine sim_nmH (fun g1 => ?_)
  refine sim_sub [1, 0] rfl ?_
  refine sX12_readsNumber_l10 (fun g10 => ?_) _ g1
  · refine sim_aload_n 0 rfl dX12_readsNumber_27 ?_
    refine sim_iconst (v := 2) (by decide) dX12_readsNumber_28 ?_
    refine sim_aload_n 0 rfl dX12_readsNumber_29 ?_
    refine sim_getI flX12_155 rfl rfl dX12_readsNumber_30 ?_
    refine sim_cV (As := [.int (2 : Int32), .int (g10.1 75 11)]) (st := []) (r := (some (.int ((fX12_wrongAt (2 : Int32) (g10.1 75 11) g10).1)))) (h1 := (fX12_wrongAt (2 : Int32) (g10.1 75 11) g10).2) (okX12_wrongAt (2 : Int32) (g10.1 75 11) g10) (fun _ => rfl) mlX12_169 mtX12_wrongAt rfl rfl rfl rfl (Nat.le_of_ble_eq_true rfl) rfl (Nat.le_of_ble_eq_true rfl) dX12_readsNumber_33 ?_
    refine sim_nmP (fun b11 => ?_)
    refine sim_guard (fun c12 => ?_)
    exact sim_zret rfl (nar_b c12) rfl dX12_readsNumber_36
theorem okX12_readsNumber (h : AH) (b : Int32 × AH) (e : fX12_readsNumber h = some b) : Ok yX12_readsNumber cX12_readsNumber 2 (some .boolean) 3 [.ref 75] h (some (.int b.1), b.2) := ok_of (sX12_readsNumber h) (by rw [e]; rfl) (by decide +kernel) (Nat.le_of_ble_eq_true rfl)
def fX12_readsFactor_l0b (rec : AH → Option (Int32 × AH)) (K20 : AH → Option (Int32 × AH)) (h : AH) : Option (Int32 × AH) :=
  (fX12_here h).bind (fun b24 =>
  if b24 = (91 : Int32) then
    (fX12_opens (14 : Int32) h).bind (fun b27 =>
    if b27.1 = 0 then
      some ((0 : Int32), b27.2)
    else
      rec b27.2)
  else
    K20 h)
def fX12_readsFactor_l0 (K20 : AH → Option (Int32 × AH)) : Nat → AH → Option (Int32 × AH)
  | 0, _ => none
  | n + 1, h => fX12_readsFactor_l0b (fX12_readsFactor_l0 K20 n) K20 h
theorem sX12_readsFactor_l0b {rec : AH → Option (Int32 × AH)} {K20 : AH → Option (Int32 × AH)} (hR : ∀ (h : AH), Sim RX12 cX12_readsFactor 2 (some .boolean) 4 (Option.map oI) (rec h) 0 [(0, .ref 75)] [] h) (hK20 : ∀ (g : AH), Sim RX12 cX12_readsFactor 2 (some .boolean) 4 (Option.map oI) (K20 g) 20 [(0, .ref 75)] [] g) : ∀ (h : AH), Sim RX12 cX12_readsFactor 2 (some .boolean) 4 (Option.map oI) (fX12_readsFactor_l0b rec K20 h) 0 [(0, .ref 75)] [] h := by
  intro h
  unfold fX12_readsFactor_l0b
  refine sim_aload_n 0 rfl dX12_readsFactor_0 ?_
  refine sim_bind (fun b24 e25 => ?_)
  refine sim_cV (As := []) (st := []) (r := (some (.int b24))) (h1 := h) (okX12_here h b24 e25) (fun _ => rfl) mlX12_165 mtX12_here rfl rfl rfl rfl (Nat.le_of_ble_eq_true rfl) rfl (Nat.le_of_ble_eq_true rfl) dX12_readsFactor_1 ?_
  refine sim_bipush (v := 91) (by decide) dX12_readsFactor_4 ?_
  refine sim_icmp_ne (tgt := 20) dX12_readsFactor_6 (by decide) (fun c26 => ?_) (fun c26 => ?_)
  · exact hK20 h
  · refine sim_aload_n 0 rfl dX12_readsFactor_9 ?_
    refine sim_bipush (v := 14) (by decide) dX12_readsFactor_10 ?_
    refine sim_bind (fun b27 e28 => ?_)
    refine sim_cV (As := [.int (14 : Int32)]) (st := []) (r := (some (.int b27.1))) (h1 := b27.2) (okX12_opens (14 : Int32) h b27 e28) (fun _ => rfl) mlX12_255 mtX12_opens rfl rfl rfl rfl (Nat.le_of_ble_eq_true rfl) rfl (Nat.le_of_ble_eq_true rfl) dX12_readsFactor_12 ?_
    refine sim_if_ne (tgt := 0) dX12_readsFactor_15 (by decide) (fun c29 => ?_) (fun c29 => ?_)
    · exact hR b27.2
    · refine sim_iconst (v := 0) (by decide) dX12_readsFactor_18 ?_
      exact sim_zret rfl rfl rfl dX12_readsFactor_19
theorem sX12_readsFactor_l0 {K20 : AH → Option (Int32 × AH)} (hK20 : ∀ (g : AH), Sim RX12 cX12_readsFactor 2 (some .boolean) 4 (Option.map oI) (K20 g) 20 [(0, .ref 75)] [] g) : ∀ (n : Nat) (h : AH), Sim RX12 cX12_readsFactor 2 (some .boolean) 4 (Option.map oI) (fX12_readsFactor_l0 K20 n h) 0 [(0, .ref 75)] [] h := by
  intro n
  induction n with
  | zero => intro h; exact sim_none
  | succ n ih => intro h; exact sX12_readsFactor_l0b ih hK20 h
def fX12_readsFactor (h : AH) : Option (Int32 × AH) :=
  (fX12_here h).bind (fun b1 =>
  if b1 = (91 : Int32) then
    (fX12_opens (14 : Int32) h).bind (fun b21 =>
    if b21.1 = 0 then
      some ((0 : Int32), b21.2)
    else
      fX12_readsFactor_l0 (fun (g30 : AH) =>
        (fX12_isDigit g30).bind (fun b31 =>
        if b31 = 0 then
          (fX12_here g30).bind (fun b34 =>
          letT (fX12_factOf b34 g30) (fun v36 =>
          if v36 = (-1 : Int32) then
            letT (fX12_wrongAt (1 : Int32) (g30.1 75 11) g30) (fun b41 =>
            if b41.1 = 0 ∨ b41.1 = 1 then some (b41.1, b41.2) else none)
          else
            (fX12_notes (1 : Int32) v36 g30).bind (fun b38 =>
            letT (sI b38 75 11 ((b38.1 75 11) + (1 : Int32))) (fun g40 =>
            some ((1 : Int32), g40)))))
        else
          (fX12_readsNumber g30).bind (fun b43 =>
          if b43.1 = 0 then
            some ((0 : Int32), b43.2)
          else
            (fX12_notes (0 : Int32) (b43.2.1 75 14) b43.2).bind (fun b46 =>
            some ((1 : Int32), b46))))) fuel0 b21.2)
  else
    (fX12_isDigit h).bind (fun b4 =>
    if b4 = 0 then
      (fX12_here h).bind (fun b7 =>
      letT (fX12_factOf b7 h) (fun v9 =>
      if v9 = (-1 : Int32) then
        letT (fX12_wrongAt (1 : Int32) (h.1 75 11) h) (fun b14 =>
        if b14.1 = 0 ∨ b14.1 = 1 then some (b14.1, b14.2) else none)
      else
        (fX12_notes (1 : Int32) v9 h).bind (fun b11 =>
        letT (sI b11 75 11 ((b11.1 75 11) + (1 : Int32))) (fun g13 =>
        some ((1 : Int32), g13)))))
    else
      (fX12_readsNumber h).bind (fun b16 =>
      if b16.1 = 0 then
        some ((0 : Int32), b16.2)
      else
        (fX12_notes (0 : Int32) (b16.2.1 75 14) b16.2).bind (fun b19 =>
        some ((1 : Int32), b19)))))
theorem sX12_readsFactor (h : AH) : Sim RX12 cX12_readsFactor 2 (some .boolean) 4 (Option.map oI) (fX12_readsFactor h) 0 [(0, .ref 75)] [] h := by
  unfold fX12_readsFactor
  refine sim_aload_n 0 rfl dX12_readsFactor_0 ?_
  refine sim_bind (fun b1 e2 => ?_)
  refine sim_cV (As := []) (st := []) (r := (some (.int b1))) (h1 := h) (okX12_here h b1 e2) (fun _ => rfl) mlX12_165 mtX12_here rfl rfl rfl rfl (Nat.le_of_ble_eq_true rfl) rfl (Nat.le_of_ble_eq_true rfl) dX12_readsFactor_1 ?_
  refine sim_bipush (v := 91) (by decide) dX12_readsFactor_4 ?_
  refine sim_icmp_ne (tgt := 20) dX12_readsFactor_6 (by decide) (fun c3 => ?_) (fun c3 => ?_)
  · refine sim_aload_n 0 rfl dX12_readsFactor_20 ?_
    refine sim_bind (fun b4 e5 => ?_)
    refine sim_cV (As := []) (st := []) (r := (some (.int b4))) (h1 := h) (okX12_isDigit h b4 e5) (fun _ => rfl) mlX12_161 mtX12_isDigit rfl rfl rfl rfl (Nat.le_of_ble_eq_true rfl) rfl (Nat.le_of_ble_eq_true rfl) dX12_readsFactor_21 ?_
    refine sim_if_eq (tgt := 47) dX12_readsFactor_24 (by decide) (fun c6 => ?_) (fun c6 => ?_)
    · refine sim_aload_n 0 rfl dX12_readsFactor_47 ?_
      refine sim_bind (fun b7 e8 => ?_)
      refine sim_cV (As := []) (st := []) (r := (some (.int b7))) (h1 := h) (okX12_here h b7 e8) (fun _ => rfl) mlX12_165 mtX12_here rfl rfl rfl rfl (Nat.le_of_ble_eq_true rfl) rfl (Nat.le_of_ble_eq_true rfl) dX12_readsFactor_48 ?_
      refine sim_cS (As := [.int b7]) (st := []) (r := (some (.int (fX12_factOf b7 h)))) (h1 := h) (okX12_factOf b7 h) (fun _ => rfl) mlX12_261 mtX12_factOf rfl (Nat.le_of_ble_eq_true rfl) rfl (Nat.le_of_ble_eq_true rfl) dX12_readsFactor_51 ?_
      refine sim_nmI (fun v9 => ?_)
      refine sim_istore_n (L' := [(1, .int v9), (0, .ref 75)]) rfl (by decide) dX12_readsFactor_54 ?_
      refine sim_iload_n 0 rfl dX12_readsFactor_55 ?_
      refine sim_iconst (v := -1) (by decide) dX12_readsFactor_56 ?_
      refine sim_icmp_ne (tgt := 70) dX12_readsFactor_57 (by decide) (fun c10 => ?_) (fun c10 => ?_)
      · refine sim_aload_n 1 rfl dX12_readsFactor_70 ?_
        refine sim_iconst (v := 1) (by decide) dX12_readsFactor_71 ?_
        refine sim_iload_n 0 rfl dX12_readsFactor_72 ?_
        refine sim_bind (fun b11 e12 => ?_)
        refine sim_cV (As := [.int (1 : Int32), .int v9]) (st := []) (r := none) (h1 := b11) (okX12_notes (1 : Int32) v9 h b11 e12) (fun _ => rfl) mlX12_251 mtX12_notes rfl rfl rfl rfl (Nat.le_of_ble_eq_true rfl) rfl (Nat.le_of_ble_eq_true rfl) dX12_readsFactor_73 ?_
        refine sim_aload_n 1 rfl dX12_readsFactor_76 ?_
        refine sim_aload_n 1 rfl dX12_readsFactor_77 ?_
        refine sim_getI flX12_155 rfl rfl dX12_readsFactor_78 ?_
        refine sim_iconst (v := 1) (by decide) dX12_readsFactor_81 ?_
        refine sim_iadd dX12_readsFactor_82 ?_
        refine sim_putI fpX12_155 rfl rfl rfl rfl dX12_readsFactor_83 ?_
        refine sim_nmH (fun g13 => ?_)
        refine sim_iconst (v := 1) (by decide) dX12_readsFactor_86 ?_
        exact sim_zret rfl rfl rfl dX12_readsFactor_87
      · refine sim_aload_n 1 rfl dX12_readsFactor_60 ?_
        refine sim_iconst (v := 1) (by decide) dX12_readsFactor_61 ?_
        refine sim_aload_n 1 rfl dX12_readsFactor_62 ?_
        refine sim_getI flX12_155 rfl rfl dX12_readsFactor_63 ?_
        refine sim_cV (As := [.int (1 : Int32), .int (h.1 75 11)]) (st := []) (r := (some (.int ((fX12_wrongAt (1 : Int32) (h.1 75 11) h).1)))) (h1 := (fX12_wrongAt (1 : Int32) (h.1 75 11) h).2) (okX12_wrongAt (1 : Int32) (h.1 75 11) h) (fun _ => rfl) mlX12_169 mtX12_wrongAt rfl rfl rfl rfl (Nat.le_of_ble_eq_true rfl) rfl (Nat.le_of_ble_eq_true rfl) dX12_readsFactor_66 ?_
        refine sim_nmP (fun b14 => ?_)
        refine sim_guard (fun c15 => ?_)
        exact sim_zret rfl (nar_b c15) rfl dX12_readsFactor_69
    · refine sim_aload_n 0 rfl dX12_readsFactor_27 ?_
      refine sim_bind (fun b16 e17 => ?_)
      refine sim_cV (As := []) (st := []) (r := (some (.int b16.1))) (h1 := b16.2) (okX12_readsNumber h b16 e17) (fun _ => rfl) mlX12_258 mtX12_readsNumber rfl rfl rfl rfl (Nat.le_of_ble_eq_true rfl) rfl (Nat.le_of_ble_eq_true rfl) dX12_readsFactor_28 ?_
      refine sim_if_ne (tgt := 36) dX12_readsFactor_31 (by decide) (fun c18 => ?_) (fun c18 => ?_)
      · refine sim_aload_n 0 rfl dX12_readsFactor_36 ?_
        refine sim_iconst (v := 0) (by decide) dX12_readsFactor_37 ?_
        refine sim_aload_n 0 rfl dX12_readsFactor_38 ?_
        refine sim_getI flX12_158 rfl rfl dX12_readsFactor_39 ?_
        refine sim_bind (fun b19 e20 => ?_)
        refine sim_cV (As := [.int (0 : Int32), .int (b16.2.1 75 14)]) (st := []) (r := none) (h1 := b19) (okX12_notes (0 : Int32) (b16.2.1 75 14) b16.2 b19 e20) (fun _ => rfl) mlX12_251 mtX12_notes rfl rfl rfl rfl (Nat.le_of_ble_eq_true rfl) rfl (Nat.le_of_ble_eq_true rfl) dX12_readsFactor_42 ?_
        refine sim_iconst (v := 1) (by decide) dX12_readsFactor_45 ?_
        exact sim_zret rfl rfl rfl dX12_readsFactor_46
      · refine sim_iconst (v := 0) (by decide) dX12_readsFactor_34 ?_
        exact sim_zret rfl rfl rfl dX12_readsFactor_35
  · refine sim_aload_n 0 rfl dX12_readsFactor_9 ?_
    refine sim_bipush (v := 14) (by decide) dX12_readsFactor_10 ?_
    refine sim_bind (fun b21 e22 => ?_)
    refine sim_cV (As := [.int (14 : Int32)]) (st := []) (r := (some (.int b21.1))) (h1 := b21.2) (okX12_opens (14 : Int32) h b21 e22) (fun _ => rfl) mlX12_255 mtX12_opens rfl rfl rfl rfl (Nat.le_of_ble_eq_true rfl) rfl (Nat.le_of_ble_eq_true rfl) dX12_readsFactor_12 ?_
    refine sim_if_ne (tgt := 0) dX12_readsFactor_15 (by decide) (fun c23 => ?_) (fun c23 => ?_)
    · refine sX12_readsFactor_l0 (fun g30 => ?_) _ b21.2
      · refine sim_aload_n 0 rfl dX12_readsFactor_20 ?_
        refine sim_bind (fun b31 e32 => ?_)
        refine sim_cV (As := []) (st := []) (r := (some (.int b31))) (h1 := g30) (okX12_isDigit g30 b31 e32) (fun _ => rfl) mlX12_161 mtX12_isDigit rfl rfl rfl rfl (Nat.le_of_ble_eq_true rfl) rfl (Nat.le_of_ble_eq_true rfl) dX12_readsFactor_21 ?_
        refine sim_if_eq (tgt := 47) dX12_readsFactor_24 (by decide) (fun c33 => ?_) (fun c33 => ?_)
        · refine sim_aload_n 0 rfl dX12_readsFactor_47 ?_
          refine sim_bind (fun b34 e35 => ?_)
          refine sim_cV (As := []) (st := []) (r := (some (.int b34))) (h1 := g30) (okX12_here g30 b34 e35) (fun _ => rfl) mlX12_165 mtX12_here rfl rfl rfl rfl (Nat.le_of_ble_eq_true rfl) rfl (Nat.le_of_ble_eq_true rfl) dX12_readsFactor_48 ?_
          refine sim_cS (As := [.int b34]) (st := []) (r := (some (.int (fX12_factOf b34 g30)))) (h1 := g30) (okX12_factOf b34 g30) (fun _ => rfl) mlX12_261 mtX12_factOf rfl (Nat.le_of_ble_eq_true rfl) rfl (Nat.le_of_ble_eq_true rfl) dX12_readsFactor_51 ?_
          refine sim_nmI (fun v36 => ?_)
          refine sim_istore_n (L' := [(1, .int v36), (0, .ref 75)]) rfl (by decide) dX12_readsFactor_54 ?_
          refine sim_iload_n 0 rfl dX12_readsFactor_55 ?_
          refine sim_iconst (v := -1) (by decide) dX12_readsFactor_56 ?_
          refine sim_icmp_ne (tgt := 70) dX12_readsFactor_57 (by decide) (fun c37 => ?_) (fun c37 => ?_)
          · refine sim_aload_n 1 rfl dX12_readsFactor_70 ?_
            refine sim_iconst (v := 1) (by decide) dX12_readsFactor_71 ?_
            refine sim_iload_n 0 rfl dX12_readsFactor_72 ?_
            refine sim_bind (fun b38 e39 => ?_)
            refine sim_cV (As := [.int (1 : Int32), .int v36]) (st := []) (r := none) (h1 := b38) (okX12_notes (1 : Int32) v36 g30 b38 e39) (fun _ => rfl) mlX12_251 mtX12_notes rfl rfl rfl rfl (Nat.le_of_ble_eq_true rfl) rfl (Nat.le_of_ble_eq_true rfl) dX12_readsFactor_73 ?_
            refine sim_aload_n 1 rfl dX12_readsFactor_76 ?_
            refine sim_aload_n 1 rfl dX12_readsFactor_77 ?_
            refine sim_getI flX12_155 rfl rfl dX12_readsFactor_78 ?_
            refine sim_iconst (v := 1) (by decide) dX12_readsFactor_81 ?_
            refine sim_iadd dX12_readsFactor_82 ?_
            refine sim_putI fpX12_155 rfl rfl rfl rfl dX12_readsFactor_83 ?_
            refine sim_nmH (fun g40 => ?_)
            refine sim_iconst (v := 1) (by decide) dX12_readsFactor_86 ?_
            exact sim_zret rfl rfl rfl dX12_readsFactor_87
          · refine sim_aload_n 1 rfl dX12_readsFactor_60 ?_
            refine sim_iconst (v := 1) (by decide) dX12_readsFactor_61 ?_
            refine sim_aload_n 1 rfl dX12_readsFactor_62 ?_
            refine sim_getI flX12_155 rfl rfl dX12_readsFactor_63 ?_
            refine sim_cV (As := [.int (1 : Int32), .int (g30.1 75 11)]) (st := []) (r := (some (.int ((fX12_wrongAt (1 : Int32) (g30.1 75 11) g30).1)))) (h1 := (fX12_wrongAt (1 : Int32) (g30.1 75 11) g30).2) (okX12_wrongAt (1 : Int32) (g30.1 75 11) g30) (fun _ => rfl) mlX12_169 mtX12_wrongAt rfl rfl rfl rfl (Nat.le_of_ble_eq_true rfl) rfl (Nat.le_of_ble_eq_true rfl) dX12_readsFactor_66 ?_
            refine sim_nmP (fun b41 => ?_)
            refine sim_guard (fun c42 => ?_)
            exact sim_zret rfl (nar_b c42) rfl dX12_readsFactor_69
        · refine sim_aload_n 0 rfl dX12_readsFactor_27 ?_
          refine sim_bind (fun b43 e44 => ?_)
          refine sim_cV (As := []) (st := []) (r := (some (.int b43.1))) (h1 := b43.2) (okX12_readsNumber g30 b43 e44) (fun _ => rfl) mlX12_258 mtX12_readsNumber rfl rfl rfl rfl (Nat.le_of_ble_eq_true rfl) rfl (Nat.le_of_ble_eq_true rfl) dX12_readsFactor_28 ?_
          refine sim_if_ne (tgt := 36) dX12_readsFactor_31 (by decide) (fun c45 => ?_) (fun c45 => ?_)
          · refine sim_aload_n 0 rfl dX12_readsFactor_36 ?_
            refine sim_iconst (v := 0) (by decide) dX12_readsFactor_37 ?_
            refine sim_aload_n 0 rfl dX12_readsFactor_38 ?_
            refine sim_getI flX12_158 rfl rfl dX12_readsFactor_39 ?_
            refine sim_bind (fun b46 e47 => ?_)
            refine sim_cV (As := [.int (0 : Int32), .int (b43.2.1 75 14)]) (st := []) (r := none) (h1 := b46) (okX12_notes (0 : Int32) (b43.2.1 75 14) b43.2 b46 e47) (fun _ => rfl) mlX12_251 mtX12_notes rfl rfl rfl rfl (Nat.le_of_ble_eq_true rfl) rfl (Nat.le_of_ble_eq_true rfl) dX12_readsFactor_42 ?_
            refine sim_iconst (v := 1) (by decide) dX12_readsFactor_45 ?_
            exact sim_zret rfl rfl rfl dX12_readsFactor_46
          · refine sim_iconst (v := 0) (by decide) dX12_readsFactor_34 ?_
            exact sim_zret rfl rfl rfl dX12_readsFactor_35
    · refine sim_iconst (v := 0) (by decide) dX12_readsFactor_18 ?_
      exact sim_zret rfl rfl rfl dX12_readsFactor_19
theorem okX12_readsFactor (h : AH) (b : Int32 × AH) (e : fX12_readsFactor h = some b) : Ok yX12_readsFactor cX12_readsFactor 2 (some .boolean) 4 [.ref 75] h (some (.int b.1), b.2) := ok_of (sX12_readsFactor h) (by rw [e]; rfl) (by decide +kernel) (Nat.le_of_ble_eq_true rfl)
def fX12_sumSign (p0 : Int32) (h : AH) : Int32 :=
  if p0 = (43 : Int32) then
    (2 : Int32)
  else
    if p0 = (45 : Int32) then
      (3 : Int32)
    else
      if p0 = (42 : Int32) then
        (4 : Int32)
      else
        if p0 = (47 : Int32) then
          (5 : Int32)
        else
          if p0 = (37 : Int32) then
            (6 : Int32)
          else
            (-1 : Int32)
theorem sX12_sumSign (p0 : Int32) (h : AH) : Sim RX12 cX12_sumSign 1 (some .int) 1 (tI h) (fX12_sumSign p0 h) 0 [(0, .int p0)] [] h := by
  unfold fX12_sumSign
  refine sim_iload_n 0 rfl dX12_sumSign_0 ?_
  refine sim_bipush (v := 43) (by decide) dX12_sumSign_1 ?_
  refine sim_icmp_ne (tgt := 10) dX12_sumSign_3 (by decide) (fun c1 => ?_) (fun c1 => ?_)
  · refine sim_iload_n 0 rfl dX12_sumSign_10 ?_
    refine sim_bipush (v := 45) (by decide) dX12_sumSign_11 ?_
    refine sim_icmp_ne (tgt := 20) dX12_sumSign_13 (by decide) (fun c2 => ?_) (fun c2 => ?_)
    · refine sim_iload_n 0 rfl dX12_sumSign_20 ?_
      refine sim_bipush (v := 42) (by decide) dX12_sumSign_21 ?_
      refine sim_icmp_ne (tgt := 30) dX12_sumSign_23 (by decide) (fun c3 => ?_) (fun c3 => ?_)
      · refine sim_iload_n 0 rfl dX12_sumSign_30 ?_
        refine sim_bipush (v := 47) (by decide) dX12_sumSign_31 ?_
        refine sim_icmp_ne (tgt := 40) dX12_sumSign_33 (by decide) (fun c4 => ?_) (fun c4 => ?_)
        · refine sim_iload_n 0 rfl dX12_sumSign_40 ?_
          refine sim_bipush (v := 37) (by decide) dX12_sumSign_41 ?_
          refine sim_icmp_ne (tgt := 51) dX12_sumSign_43 (by decide) (fun c5 => ?_) (fun c5 => ?_)
          · refine sim_iconst (v := -1) (by decide) dX12_sumSign_51 ?_
            exact sim_iret rfl rfl dX12_sumSign_52
          · refine sim_bipush (v := 6) (by decide) dX12_sumSign_46 ?_
            refine sim_goto (tgt := 52) dX12_sumSign_48 (by decide) ?_
            exact sim_iret rfl rfl dX12_sumSign_52
        · refine sim_iconst (v := 5) (by decide) dX12_sumSign_36 ?_
          refine sim_goto (tgt := 52) dX12_sumSign_37 (by decide) ?_
          exact sim_iret rfl rfl dX12_sumSign_52
      · refine sim_iconst (v := 4) (by decide) dX12_sumSign_26 ?_
        refine sim_goto (tgt := 52) dX12_sumSign_27 (by decide) ?_
        exact sim_iret rfl rfl dX12_sumSign_52
    · refine sim_iconst (v := 3) (by decide) dX12_sumSign_16 ?_
      refine sim_goto (tgt := 52) dX12_sumSign_17 (by decide) ?_
      exact sim_iret rfl rfl dX12_sumSign_52
  · refine sim_iconst (v := 2) (by decide) dX12_sumSign_6 ?_
    refine sim_goto (tgt := 52) dX12_sumSign_7 (by decide) ?_
    exact sim_iret rfl rfl dX12_sumSign_52
theorem okX12_sumSign (p0 : Int32) (h : AH) : Ok yX12_sumSign cX12_sumSign 1 (some .int) 1 [.int p0] h (some (.int (fX12_sumSign p0 h)), h) := ok_of (sX12_sumSign p0 h) rfl (by decide +kernel) (Nat.le_of_ble_eq_true rfl)
def fX12_hasOpenSum_l2b (rec : Int32 → Option Int32) (h : AH) (x2 : Int32) : Option Int32 :=
  if x2 < (h.1 75 26) then
    if x2 < 0 ∨ 220 ≤ x2.toNatClampNeg then none else
    if ((h.1 92 x2.toNatClampNeg) / (1048576 : Int32)) = (14 : Int32) then
      some (1 : Int32)
    else
      rec (x2 + 1)
  else
    some (0 : Int32)
def fX12_hasOpenSum_l2 (h : AH) : Nat → Int32 → Option Int32
  | 0, _ => none
  | n + 1, x2 => fX12_hasOpenSum_l2b (fX12_hasOpenSum_l2 h n) h x2
theorem sX12_hasOpenSum_l2b {rec : Int32 → Option Int32} {h : AH} (hR : ∀ (x2 : Int32), Sim RX12 cX12_hasOpenSum 3 (some .boolean) 1 (Option.map (pI h)) (rec x2) 2 [(0, .ref 75), (2, .int x2)] [] h) : ∀ (x2 : Int32), Sim RX12 cX12_hasOpenSum 3 (some .boolean) 1 (Option.map (pI h)) (fX12_hasOpenSum_l2b rec h x2) 2 [(0, .ref 75), (2, .int x2)] [] h := by
  intro x2
  unfold fX12_hasOpenSum_l2b
  refine sim_iload_n 1 rfl dX12_hasOpenSum_2 ?_
  refine sim_aload_n 0 rfl dX12_hasOpenSum_3 ?_
  refine sim_getI flX12_245 rfl rfl dX12_hasOpenSum_4 ?_
  refine sim_icmp_ge (tgt := 32) dX12_hasOpenSum_7 (by decide) (fun c1 => ?_) (fun c1 => ?_)
  · refine sim_iconst (v := 0) (by decide) dX12_hasOpenSum_32 ?_
    exact sim_zret rfl rfl rfl dX12_hasOpenSum_33
  · refine sim_aload_n 0 rfl dX12_hasOpenSum_10 ?_
    refine sim_getR flX12_59 rfl rfl dX12_hasOpenSum_11 ?_
    refine sim_iload_n 1 rfl dX12_hasOpenSum_14 ?_
    refine sim_nguard (fun c2 => ?_)
    refine sim_iald rfl c2 dX12_hasOpenSum_15 ?_
    refine sim_ldc kcX12_241 dX12_hasOpenSum_16 ?_
    refine sim_idiv (by decide) dX12_hasOpenSum_18 ?_
    refine sim_bipush (v := 14) (by decide) dX12_hasOpenSum_19 ?_
    refine sim_icmp_ne (tgt := 26) dX12_hasOpenSum_21 (by decide) (fun c3 => ?_) (fun c3 => ?_)
    · refine sim_iinc (v := x2 + 1) (L' := [(2, .int (x2 + 1)), (0, .ref 75)]) 1 rfl rfl rfl (by decide) dX12_hasOpenSum_26 ?_
      refine sim_goto (tgt := 2) dX12_hasOpenSum_29 (by decide) ?_
      refine sim_sub [1, 0] rfl ?_
      exact hR (x2 + 1)
    · refine sim_iconst (v := 1) (by decide) dX12_hasOpenSum_24 ?_
      exact sim_zret rfl rfl rfl dX12_hasOpenSum_25
theorem sX12_hasOpenSum_l2 {h : AH} : ∀ (n : Nat) (x2 : Int32), Sim RX12 cX12_hasOpenSum 3 (some .boolean) 1 (Option.map (pI h)) (fX12_hasOpenSum_l2 h n x2) 2 [(0, .ref 75), (2, .int x2)] [] h := by
  intro n
  induction n with
  | zero => intro x2; exact sim_none
  | succ n ih => intro x2; exact sX12_hasOpenSum_l2b ih x2
def fX12_hasOpenSum (p1 : Int32) (h : AH) : Option Int32 :=
  fX12_hasOpenSum_l2 h fuel0 p1
theorem sX12_hasOpenSum (p1 : Int32) (h : AH) : Sim RX12 cX12_hasOpenSum 3 (some .boolean) 1 (Option.map (pI h)) (fX12_hasOpenSum p1 h) 0 [(0, .ref 75), (1, .int p1)] [] h := by
  unfold fX12_hasOpenSum
  refine sim_iload_n 1 rfl dX12_hasOpenSum_0 ?_
  refine sim_istore_n (L' := [(2, .int p1), (0, .ref 75), (1, .int p1)]) rfl (by decide) dX12_hasOpenSum_1 ?_
  refine sim_sub [1, 0] rfl ?_
  refine sX12_hasOpenSum_l2 _ p1
theorem okX12_hasOpenSum (p1 : Int32) (h : AH) (b : Int32) (e : fX12_hasOpenSum p1 h = some b) : Ok yX12_hasOpenSum cX12_hasOpenSum 3 (some .boolean) 1 [.ref 75, .int p1] h (some (.int b), h) := ok_of (sX12_hasOpenSum p1 h) (by rw [e]; rfl) (by decide +kernel) (Nat.le_of_ble_eq_true rfl)
def fX12_waitTop (h : AH) : Option Int32 :=
  if (h.1 75 26) = 0 then
    some (-1 : Int32)
  else
    if ((h.1 75 26) - (1 : Int32)) < 0 ∨ 220 ≤ ((h.1 75 26) - (1 : Int32)).toNatClampNeg then none else
    some ((h.1 92 ((h.1 75 26) - (1 : Int32)).toNatClampNeg) / (1048576 : Int32))
theorem sX12_waitTop (h : AH) : Sim RX12 cX12_waitTop 1 (some .int) 1 (Option.map (pI h)) (fX12_waitTop h) 0 [(0, .ref 75)] [] h := by
  unfold fX12_waitTop
  refine sim_aload_n 0 rfl dX12_waitTop_0 ?_
  refine sim_getI flX12_245 rfl rfl dX12_waitTop_1 ?_
  refine sim_if_ne (tgt := 11) dX12_waitTop_4 (by decide) (fun c1 => ?_) (fun c1 => ?_)
  · refine sim_aload_n 0 rfl dX12_waitTop_11 ?_
    refine sim_getR flX12_59 rfl rfl dX12_waitTop_12 ?_
    refine sim_aload_n 0 rfl dX12_waitTop_15 ?_
    refine sim_getI flX12_245 rfl rfl dX12_waitTop_16 ?_
    refine sim_iconst (v := 1) (by decide) dX12_waitTop_19 ?_
    refine sim_isub dX12_waitTop_20 ?_
    refine sim_nguard (fun c2 => ?_)
    refine sim_iald rfl c2 dX12_waitTop_21 ?_
    refine sim_ldc kcX12_241 dX12_waitTop_22 ?_
    refine sim_idiv (by decide) dX12_waitTop_24 ?_
    exact sim_iret rfl rfl dX12_waitTop_25
  · refine sim_iconst (v := -1) (by decide) dX12_waitTop_7 ?_
    refine sim_goto (tgt := 25) dX12_waitTop_8 (by decide) ?_
    exact sim_iret rfl rfl dX12_waitTop_25
theorem okX12_waitTop (h : AH) (b : Int32) (e : fX12_waitTop h = some b) : Ok yX12_waitTop cX12_waitTop 1 (some .int) 1 [.ref 75] h (some (.int b), h) := ok_of (sX12_waitTop h) (by rw [e]; rfl) (by decide +kernel) (Nat.le_of_ble_eq_true rfl)
def fX12_closesSums_l0b (rec : AH → Option AH) (x1 : Int32) (h : AH) : Option AH :=
  (fX12_waitTop h).bind (fun b9 =>
  letT ((fX12_waitTop h).bind (fun b12 =>
    (fX12_notes b12 (0 : Int32) h).bind (fun b14 =>
    letT (sI b14 75 26 ((b14.1 75 26) - (1 : Int32))) (fun g16 =>
    rec g16)))) (fun J11 =>
  letT (if x1 = 0 then
      some h
    else
      (fX12_waitTop h).bind (fun b19 =>
      if b19 = (2 : Int32) then
        J11
      else
        (fX12_waitTop h).bind (fun b22 =>
        if b22 = (3 : Int32) then
          J11
        else
          some h))) (fun J17 =>
  if b9 < (4 : Int32) then
    J17
  else
    (fX12_waitTop h).bind (fun b26 =>
    if (6 : Int32) < b26 then
      J17
    else
      J11))))
def fX12_closesSums_l0 (x1 : Int32) : Nat → AH → Option AH
  | 0, _ => none
  | n + 1, h => fX12_closesSums_l0b (fX12_closesSums_l0 x1 n) x1 h
theorem sX12_closesSums_l0b {rec : AH → Option AH} {x1 : Int32} (hR : ∀ (h : AH), Sim RX12 cX12_closesSums 2 none 2 (Option.map oV) (rec h) 0 [(0, .ref 75), (1, .int x1)] [] h) : ∀ (h : AH), Sim RX12 cX12_closesSums 2 none 2 (Option.map oV) (fX12_closesSums_l0b rec x1 h) 0 [(0, .ref 75), (1, .int x1)] [] h := by
  intro h
  unfold fX12_closesSums_l0b
  refine sim_aload_n 0 rfl dX12_closesSums_0 ?_
  refine sim_bind (fun b9 e10 => ?_)
  refine sim_cV (As := []) (st := []) (r := (some (.int b9))) (h1 := h) (okX12_waitTop h b9 e10) (fun _ => rfl) mlX12_248 mtX12_waitTop rfl rfl rfl rfl (Nat.le_of_ble_eq_true rfl) rfl (Nat.le_of_ble_eq_true rfl) dX12_closesSums_1 ?_
  refine sim_iconst (v := 4) (by decide) dX12_closesSums_4 ?_
  refine sim_letJ (fun J11 => Sim RX12 cX12_closesSums 2 none 2 (Option.map oV) (J11) 37 [(0, .ref 75), (1, .int x1)] [] h) (?_) (fun J11 hJ11 => ?_)
  · refine sim_aload_n 0 rfl dX12_closesSums_37 ?_
    refine sim_aload_n 0 rfl dX12_closesSums_38 ?_
    refine sim_bind (fun b12 e13 => ?_)
    refine sim_cV (As := []) (st := [.ref 75]) (r := (some (.int b12))) (h1 := h) (okX12_waitTop h b12 e13) (fun _ => rfl) mlX12_248 mtX12_waitTop rfl rfl rfl rfl (Nat.le_of_ble_eq_true rfl) rfl (Nat.le_of_ble_eq_true rfl) dX12_closesSums_39 ?_
    refine sim_iconst (v := 0) (by decide) dX12_closesSums_42 ?_
    refine sim_bind (fun b14 e15 => ?_)
    refine sim_cV (As := [.int b12, .int (0 : Int32)]) (st := []) (r := none) (h1 := b14) (okX12_notes b12 (0 : Int32) h b14 e15) (fun _ => rfl) mlX12_251 mtX12_notes rfl rfl rfl rfl (Nat.le_of_ble_eq_true rfl) rfl (Nat.le_of_ble_eq_true rfl) dX12_closesSums_43 ?_
    refine sim_aload_n 0 rfl dX12_closesSums_46 ?_
    refine sim_aload_n 0 rfl dX12_closesSums_47 ?_
    refine sim_getI flX12_245 rfl rfl dX12_closesSums_48 ?_
    refine sim_iconst (v := 1) (by decide) dX12_closesSums_51 ?_
    refine sim_isub dX12_closesSums_52 ?_
    refine sim_putI fpX12_245 rfl rfl rfl rfl dX12_closesSums_53 ?_
    refine sim_nmH (fun g16 => ?_)
    refine sim_goto (tgt := 0) dX12_closesSums_56 (by decide) ?_
    exact hR g16
  refine sim_letJ (fun J17 => Sim RX12 cX12_closesSums 2 none 2 (Option.map oV) (J17) 17 [(0, .ref 75), (1, .int x1)] [] h) (?_) (fun J17 hJ17 => ?_)
  · refine sim_iload_n 1 rfl dX12_closesSums_17 ?_
    refine sim_if_eq (tgt := 59) dX12_closesSums_18 (by decide) (fun c18 => ?_) (fun c18 => ?_)
    · exact sim_vret rfl rfl dX12_closesSums_59
    · refine sim_aload_n 0 rfl dX12_closesSums_21 ?_
      refine sim_bind (fun b19 e20 => ?_)
      refine sim_cV (As := []) (st := []) (r := (some (.int b19))) (h1 := h) (okX12_waitTop h b19 e20) (fun _ => rfl) mlX12_248 mtX12_waitTop rfl rfl rfl rfl (Nat.le_of_ble_eq_true rfl) rfl (Nat.le_of_ble_eq_true rfl) dX12_closesSums_22 ?_
      refine sim_iconst (v := 2) (by decide) dX12_closesSums_25 ?_
      refine sim_icmp_eq (tgt := 37) dX12_closesSums_26 (by decide) (fun c21 => ?_) (fun c21 => ?_)
      · exact hJ11
      · refine sim_aload_n 0 rfl dX12_closesSums_29 ?_
        refine sim_bind (fun b22 e23 => ?_)
        refine sim_cV (As := []) (st := []) (r := (some (.int b22))) (h1 := h) (okX12_waitTop h b22 e23) (fun _ => rfl) mlX12_248 mtX12_waitTop rfl rfl rfl rfl (Nat.le_of_ble_eq_true rfl) rfl (Nat.le_of_ble_eq_true rfl) dX12_closesSums_30 ?_
        refine sim_iconst (v := 3) (by decide) dX12_closesSums_33 ?_
        refine sim_icmp_ne (tgt := 59) dX12_closesSums_34 (by decide) (fun c24 => ?_) (fun c24 => ?_)
        · exact sim_vret rfl rfl dX12_closesSums_59
        · exact hJ11
  refine sim_icmp_lt (tgt := 17) dX12_closesSums_5 (by decide) (fun c25 => ?_) (fun c25 => ?_)
  · exact hJ17
  · refine sim_aload_n 0 rfl dX12_closesSums_8 ?_
    refine sim_bind (fun b26 e27 => ?_)
    refine sim_cV (As := []) (st := []) (r := (some (.int b26))) (h1 := h) (okX12_waitTop h b26 e27) (fun _ => rfl) mlX12_248 mtX12_waitTop rfl rfl rfl rfl (Nat.le_of_ble_eq_true rfl) rfl (Nat.le_of_ble_eq_true rfl) dX12_closesSums_9 ?_
    refine sim_bipush (v := 6) (by decide) dX12_closesSums_12 ?_
    refine sim_icmp_le (tgt := 37) dX12_closesSums_14 (by decide) (fun c28 => ?_) (fun c28 => ?_)
    · exact hJ11
    · exact hJ17
theorem sX12_closesSums_l0 {x1 : Int32} : ∀ (n : Nat) (h : AH), Sim RX12 cX12_closesSums 2 none 2 (Option.map oV) (fX12_closesSums_l0 x1 n h) 0 [(0, .ref 75), (1, .int x1)] [] h := by
  intro n
  induction n with
  | zero => intro h; exact sim_none
  | succ n ih => intro h; exact sX12_closesSums_l0b ih h
def fX12_closesSums (p1 : Int32) (h : AH) : Option AH :=
  (fX12_waitTop h).bind (fun b1 =>
  letT ((fX12_waitTop h).bind (fun b4 =>
    (fX12_notes b4 (0 : Int32) h).bind (fun b6 =>
    letT (sI b6 75 26 ((b6.1 75 26) - (1 : Int32))) (fun g8 =>
    fX12_closesSums_l0 p1 fuel0 g8)))) (fun J3 =>
  letT (if p1 = 0 then
      some h
    else
      (fX12_waitTop h).bind (fun b31 =>
      if b31 = (2 : Int32) then
        J3
      else
        (fX12_waitTop h).bind (fun b34 =>
        if b34 = (3 : Int32) then
          J3
        else
          some h))) (fun J29 =>
  if b1 < (4 : Int32) then
    J29
  else
    (fX12_waitTop h).bind (fun b38 =>
    if (6 : Int32) < b38 then
      J29
    else
      J3))))
theorem sX12_closesSums (p1 : Int32) (h : AH) : Sim RX12 cX12_closesSums 2 none 2 (Option.map oV) (fX12_closesSums p1 h) 0 [(0, .ref 75), (1, .int p1)] [] h := by
  unfold fX12_closesSums
  refine sim_aload_n 0 rfl dX12_closesSums_0 ?_
  refine sim_bind (fun b1 e2 => ?_)
  refine sim_cV (As := []) (st := []) (r := (some (.int b1))) (h1 := h) (okX12_waitTop h b1 e2) (fun _ => rfl) mlX12_248 mtX12_waitTop rfl rfl rfl rfl (Nat.le_of_ble_eq_true rfl) rfl (Nat.le_of_ble_eq_true rfl) dX12_closesSums_1 ?_
  refine sim_iconst (v := 4) (by decide) dX12_closesSums_4 ?_
  refine sim_letJ (fun J3 => Sim RX12 cX12_closesSums 2 none 2 (Option.map oV) (J3) 37 [(0, .ref 75), (1, .int p1)] [] h) (?_) (fun J3 hJ3 => ?_)
  · refine sim_aload_n 0 rfl dX12_closesSums_37 ?_
    refine sim_aload_n 0 rfl dX12_closesSums_38 ?_
    refine sim_bind (fun b4 e5 => ?_)
    refine sim_cV (As := []) (st := [.ref 75]) (r := (some (.int b4))) (h1 := h) (okX12_waitTop h b4 e5) (fun _ => rfl) mlX12_248 mtX12_waitTop rfl rfl rfl rfl (Nat.le_of_ble_eq_true rfl) rfl (Nat.le_of_ble_eq_true rfl) dX12_closesSums_39 ?_
    refine sim_iconst (v := 0) (by decide) dX12_closesSums_42 ?_
    refine sim_bind (fun b6 e7 => ?_)
    refine sim_cV (As := [.int b4, .int (0 : Int32)]) (st := []) (r := none) (h1 := b6) (okX12_notes b4 (0 : Int32) h b6 e7) (fun _ => rfl) mlX12_251 mtX12_notes rfl rfl rfl rfl (Nat.le_of_ble_eq_true rfl) rfl (Nat.le_of_ble_eq_true rfl) dX12_closesSums_43 ?_
    refine sim_aload_n 0 rfl dX12_closesSums_46 ?_
    refine sim_aload_n 0 rfl dX12_closesSums_47 ?_
    refine sim_getI flX12_245 rfl rfl dX12_closesSums_48 ?_
    refine sim_iconst (v := 1) (by decide) dX12_closesSums_51 ?_
    refine sim_isub dX12_closesSums_52 ?_
    refine sim_putI fpX12_245 rfl rfl rfl rfl dX12_closesSums_53 ?_
    refine sim_nmH (fun g8 => ?_)
    refine sim_goto (tgt := 0) dX12_closesSums_56 (by decide) ?_
    refine sX12_closesSums_l0 _ g8
  refine sim_letJ (fun J29 => Sim RX12 cX12_closesSums 2 none 2 (Option.map oV) (J29) 17 [(0, .ref 75), (1, .int p1)] [] h) (?_) (fun J29 hJ29 => ?_)
  · refine sim_iload_n 1 rfl dX12_closesSums_17 ?_
    refine sim_if_eq (tgt := 59) dX12_closesSums_18 (by decide) (fun c30 => ?_) (fun c30 => ?_)
    · exact sim_vret rfl rfl dX12_closesSums_59
    · refine sim_aload_n 0 rfl dX12_closesSums_21 ?_
      refine sim_bind (fun b31 e32 => ?_)
      refine sim_cV (As := []) (st := []) (r := (some (.int b31))) (h1 := h) (okX12_waitTop h b31 e32) (fun _ => rfl) mlX12_248 mtX12_waitTop rfl rfl rfl rfl (Nat.le_of_ble_eq_true rfl) rfl (Nat.le_of_ble_eq_true rfl) dX12_closesSums_22 ?_
      refine sim_iconst (v := 2) (by decide) dX12_closesSums_25 ?_
      refine sim_icmp_eq (tgt := 37) dX12_closesSums_26 (by decide) (fun c33 => ?_) (fun c33 => ?_)
      · exact hJ3
      · refine sim_aload_n 0 rfl dX12_closesSums_29 ?_
        refine sim_bind (fun b34 e35 => ?_)
        refine sim_cV (As := []) (st := []) (r := (some (.int b34))) (h1 := h) (okX12_waitTop h b34 e35) (fun _ => rfl) mlX12_248 mtX12_waitTop rfl rfl rfl rfl (Nat.le_of_ble_eq_true rfl) rfl (Nat.le_of_ble_eq_true rfl) dX12_closesSums_30 ?_
        refine sim_iconst (v := 3) (by decide) dX12_closesSums_33 ?_
        refine sim_icmp_ne (tgt := 59) dX12_closesSums_34 (by decide) (fun c36 => ?_) (fun c36 => ?_)
        · exact sim_vret rfl rfl dX12_closesSums_59
        · exact hJ3
  refine sim_icmp_lt (tgt := 17) dX12_closesSums_5 (by decide) (fun c37 => ?_) (fun c37 => ?_)
  · exact hJ29
  · refine sim_aload_n 0 rfl dX12_closesSums_8 ?_
    refine sim_bind (fun b38 e39 => ?_)
    refine sim_cV (As := []) (st := []) (r := (some (.int b38))) (h1 := h) (okX12_waitTop h b38 e39) (fun _ => rfl) mlX12_248 mtX12_waitTop rfl rfl rfl rfl (Nat.le_of_ble_eq_true rfl) rfl (Nat.le_of_ble_eq_true rfl) dX12_closesSums_9 ?_
    refine sim_bipush (v := 6) (by decide) dX12_closesSums_12 ?_
    refine sim_icmp_le (tgt := 37) dX12_closesSums_14 (by decide) (fun c40 => ?_) (fun c40 => ?_)
    · exact hJ3
    · exact hJ29
theorem okX12_closesSums (p1 : Int32) (h : AH) (b : AH) (e : fX12_closesSums p1 h = some b) : Ok yX12_closesSums cX12_closesSums 2 none 2 [.ref 75, .int p1] h (none, b) := ok_of (sX12_closesSums p1 h) (by rw [e]; rfl) (by decide +kernel) (Nat.le_of_ble_eq_true rfl)
def fX12_readsSum_l14b (rec : AH → Option (Int32 × AH)) (K138 : AH → Option (Int32 × AH)) (x1 : Int32) (h : AH) : Option (Int32 × AH) :=
  (fX12_here h).bind (fun b4 =>
  letT (fX12_sumSign b4 h) (fun v6 =>
  if v6 = (-1 : Int32) then
    (fX12_here h).bind (fun b8 =>
    if b8 = (93 : Int32) then
      (fX12_hasOpenSum x1 h).bind (fun b11 =>
      if b11 = 0 then
        K138 h
      else
        (fX12_closesSums (1 : Int32) h).bind (fun b14 =>
        letT (sI b14 75 26 ((b14.1 75 26) - (1 : Int32))) (fun g16 =>
        letT (sI g16 75 24 ((g16.1 75 24) - (1 : Int32))) (fun g17 =>
        letT (sI g17 75 11 ((g17.1 75 11) + (1 : Int32))) (fun g18 =>
        rec g18)))))
    else
      K138 h)
  else
    letT (fun (w19 : Int32) =>
      (fX12_closesSums w19 h).bind (fun b21 =>
      if (b21.1 75 26) < 0 ∨ 220 ≤ (b21.1 75 26).toNatClampNeg then none else
      letT (sI b21 92 (b21.1 75 26).toNatClampNeg ((1048576 : Int32) * v6)) (fun g24 =>
      letT (sI g24 75 26 ((g24.1 75 26) + (1 : Int32))) (fun g25 =>
      letT (sI g25 75 11 ((g25.1 75 11) + (1 : Int32))) (fun g26 =>
      (fX12_readsFactor g26).bind (fun b27 =>
      if b27.1 = 0 then
        some ((0 : Int32), b27.2)
      else
        rec b27.2)))))) (fun J20 =>
    if v6 < (4 : Int32) then
      J20 (1 : Int32)
    else
      J20 (0 : Int32))))
def fX12_readsSum_l14 (K138 : AH → Option (Int32 × AH)) (x1 : Int32) : Nat → AH → Option (Int32 × AH)
  | 0, _ => none
  | n + 1, h => fX12_readsSum_l14b (fX12_readsSum_l14 K138 x1 n) K138 x1 h
theorem sX12_readsSum_l14b {rec : AH → Option (Int32 × AH)} {K138 : AH → Option (Int32 × AH)} {x1 : Int32} (hR : ∀ (h : AH), Sim RX12 cX12_readsSum 3 (some .boolean) 5 (Option.map oI) (rec h) 14 [(0, .ref 75), (1, .int x1)] [] h) (hK138 : ∀ (g : AH), Sim RX12 cX12_readsSum 3 (some .boolean) 5 (Option.map oI) (K138 g) 138 [(0, .ref 75), (1, .int x1)] [] g) : ∀ (h : AH), Sim RX12 cX12_readsSum 3 (some .boolean) 5 (Option.map oI) (fX12_readsSum_l14b rec K138 x1 h) 14 [(0, .ref 75), (1, .int x1)] [] h := by
  intro h
  unfold fX12_readsSum_l14b
  refine sim_aload_n 0 rfl dX12_readsSum_14 ?_
  refine sim_bind (fun b4 e5 => ?_)
  refine sim_cV (As := []) (st := []) (r := (some (.int b4))) (h1 := h) (okX12_here h b4 e5) (fun _ => rfl) mlX12_165 mtX12_here rfl rfl rfl rfl (Nat.le_of_ble_eq_true rfl) rfl (Nat.le_of_ble_eq_true rfl) dX12_readsSum_15 ?_
  refine sim_cS (As := [.int b4]) (st := []) (r := (some (.int (fX12_sumSign b4 h)))) (h1 := h) (okX12_sumSign b4 h) (fun _ => rfl) mlX12_267 mtX12_sumSign rfl (Nat.le_of_ble_eq_true rfl) rfl (Nat.le_of_ble_eq_true rfl) dX12_readsSum_18 ?_
  refine sim_nmI (fun v6 => ?_)
  refine sim_istore_n (L' := [(2, .int v6), (0, .ref 75), (1, .int x1)]) rfl (by decide) dX12_readsSum_21 ?_
  refine sim_iload_n 0 rfl dX12_readsSum_22 ?_
  refine sim_iconst (v := -1) (by decide) dX12_readsSum_23 ?_
  refine sim_icmp_eq (tgt := 83) dX12_readsSum_24 (by decide) (fun c7 => ?_) (fun c7 => ?_)
  · refine sim_aload_n 1 rfl dX12_readsSum_83 ?_
    refine sim_bind (fun b8 e9 => ?_)
    refine sim_cV (As := []) (st := []) (r := (some (.int b8))) (h1 := h) (okX12_here h b8 e9) (fun _ => rfl) mlX12_165 mtX12_here rfl rfl rfl rfl (Nat.le_of_ble_eq_true rfl) rfl (Nat.le_of_ble_eq_true rfl) dX12_readsSum_84 ?_
    refine sim_bipush (v := 93) (by decide) dX12_readsSum_87 ?_
    refine sim_icmp_ne (tgt := 138) dX12_readsSum_89 (by decide) (fun c10 => ?_) (fun c10 => ?_)
    · refine sim_sub [1, 2] rfl ?_
      exact hK138 h
    · refine sim_aload_n 1 rfl dX12_readsSum_92 ?_
      refine sim_iload_n 2 rfl dX12_readsSum_93 ?_
      refine sim_bind (fun b11 e12 => ?_)
      refine sim_cV (As := [.int x1]) (st := []) (r := (some (.int b11))) (h1 := h) (okX12_hasOpenSum x1 h b11 e12) (fun _ => rfl) mlX12_274 mtX12_hasOpenSum rfl rfl rfl rfl (Nat.le_of_ble_eq_true rfl) rfl (Nat.le_of_ble_eq_true rfl) dX12_readsSum_94 ?_
      refine sim_if_eq (tgt := 138) dX12_readsSum_97 (by decide) (fun c13 => ?_) (fun c13 => ?_)
      · refine sim_sub [1, 2] rfl ?_
        exact hK138 h
      · refine sim_aload_n 1 rfl dX12_readsSum_100 ?_
        refine sim_iconst (v := 1) (by decide) dX12_readsSum_101 ?_
        refine sim_bind (fun b14 e15 => ?_)
        refine sim_cV (As := [.int (1 : Int32)]) (st := []) (r := none) (h1 := b14) (okX12_closesSums (1 : Int32) h b14 e15) (fun _ => rfl) mlX12_270 mtX12_closesSums rfl rfl rfl rfl (Nat.le_of_ble_eq_true rfl) rfl (Nat.le_of_ble_eq_true rfl) dX12_readsSum_102 ?_
        refine sim_aload_n 1 rfl dX12_readsSum_105 ?_
        refine sim_aload_n 1 rfl dX12_readsSum_106 ?_
        refine sim_getI flX12_245 rfl rfl dX12_readsSum_107 ?_
        refine sim_iconst (v := 1) (by decide) dX12_readsSum_110 ?_
        refine sim_isub dX12_readsSum_111 ?_
        refine sim_putI fpX12_245 rfl rfl rfl rfl dX12_readsSum_112 ?_
        refine sim_nmH (fun g16 => ?_)
        refine sim_aload_n 1 rfl dX12_readsSum_115 ?_
        refine sim_aload_n 1 rfl dX12_readsSum_116 ?_
        refine sim_getI flX12_242 rfl rfl dX12_readsSum_117 ?_
        refine sim_iconst (v := 1) (by decide) dX12_readsSum_120 ?_
        refine sim_isub dX12_readsSum_121 ?_
        refine sim_putI fpX12_242 rfl rfl rfl rfl dX12_readsSum_122 ?_
        refine sim_nmH (fun g17 => ?_)
        refine sim_aload_n 1 rfl dX12_readsSum_125 ?_
        refine sim_aload_n 1 rfl dX12_readsSum_126 ?_
        refine sim_getI flX12_155 rfl rfl dX12_readsSum_127 ?_
        refine sim_iconst (v := 1) (by decide) dX12_readsSum_130 ?_
        refine sim_iadd dX12_readsSum_131 ?_
        refine sim_putI fpX12_155 rfl rfl rfl rfl dX12_readsSum_132 ?_
        refine sim_nmH (fun g18 => ?_)
        refine sim_goto (tgt := 163) dX12_readsSum_135 (by decide) ?_
        refine sim_goto (tgt := 14) dX12_readsSum_163 (by decide) ?_
        refine sim_sub [1, 2] rfl ?_
        exact hR g18
  · refine sim_aload_n 1 rfl dX12_readsSum_27 ?_
    refine sim_iload_n 0 rfl dX12_readsSum_28 ?_
    refine sim_iconst (v := 4) (by decide) dX12_readsSum_29 ?_
    refine sim_letJ (fun J20 => ∀ (w19 : Int32), Sim RX12 cX12_readsSum 3 (some .boolean) 5 (Option.map oI) (J20 w19) 38 [(0, .ref 75), (1, .int x1), (2, .int v6)] [.int w19, .ref 75] h) (fun w19 => ?_) (fun J20 hJ20 => ?_)
    · refine sim_bind (fun b21 e22 => ?_)
      refine sim_cV (As := [.int w19]) (st := []) (r := none) (h1 := b21) (okX12_closesSums w19 h b21 e22) (fun _ => rfl) mlX12_270 mtX12_closesSums rfl rfl rfl rfl (Nat.le_of_ble_eq_true rfl) rfl (Nat.le_of_ble_eq_true rfl) dX12_readsSum_38 ?_
      refine sim_aload_n 0 rfl dX12_readsSum_41 ?_
      refine sim_getR flX12_59 rfl rfl dX12_readsSum_42 ?_
      refine sim_aload_n 0 rfl dX12_readsSum_45 ?_
      refine sim_getI flX12_245 rfl rfl dX12_readsSum_46 ?_
      refine sim_ldc kcX12_241 dX12_readsSum_49 ?_
      refine sim_iload_n 2 rfl dX12_readsSum_51 ?_
      refine sim_imul dX12_readsSum_52 ?_
      refine sim_nguard (fun c23 => ?_)
      refine sim_iast rfl c23 dX12_readsSum_53 ?_
      refine sim_nmH (fun g24 => ?_)
      refine sim_aload_n 0 rfl dX12_readsSum_54 ?_
      refine sim_aload_n 0 rfl dX12_readsSum_55 ?_
      refine sim_getI flX12_245 rfl rfl dX12_readsSum_56 ?_
      refine sim_iconst (v := 1) (by decide) dX12_readsSum_59 ?_
      refine sim_iadd dX12_readsSum_60 ?_
      refine sim_putI fpX12_245 rfl rfl rfl rfl dX12_readsSum_61 ?_
      refine sim_nmH (fun g25 => ?_)
      refine sim_aload_n 0 rfl dX12_readsSum_64 ?_
      refine sim_aload_n 0 rfl dX12_readsSum_65 ?_
      refine sim_getI flX12_155 rfl rfl dX12_readsSum_66 ?_
      refine sim_iconst (v := 1) (by decide) dX12_readsSum_69 ?_
      refine sim_iadd dX12_readsSum_70 ?_
      refine sim_putI fpX12_155 rfl rfl rfl rfl dX12_readsSum_71 ?_
      refine sim_nmH (fun g26 => ?_)
      refine sim_aload_n 0 rfl dX12_readsSum_74 ?_
      refine sim_bind (fun b27 e28 => ?_)
      refine sim_cV (As := []) (st := []) (r := (some (.int b27.1))) (h1 := b27.2) (okX12_readsFactor g26 b27 e28) (fun _ => rfl) mlX12_264 mtX12_readsFactor rfl rfl rfl rfl (Nat.le_of_ble_eq_true rfl) rfl (Nat.le_of_ble_eq_true rfl) dX12_readsSum_75 ?_
      refine sim_if_ne (tgt := 163) dX12_readsSum_78 (by decide) (fun c29 => ?_) (fun c29 => ?_)
      · refine sim_goto (tgt := 14) dX12_readsSum_163 (by decide) ?_
        refine sim_sub [0, 1] rfl ?_
        exact hR b27.2
      · refine sim_iconst (v := 0) (by decide) dX12_readsSum_81 ?_
        exact sim_zret rfl rfl rfl dX12_readsSum_82
    refine sim_icmp_ge (tgt := 37) dX12_readsSum_30 (by decide) (fun c30 => ?_) (fun c30 => ?_)
    · refine sim_iconst (v := 0) (by decide) dX12_readsSum_37 ?_
      refine sim_sub [1, 2, 0] rfl ?_
      exact hJ20 (0 : Int32)
    · refine sim_iconst (v := 1) (by decide) dX12_readsSum_33 ?_
      refine sim_goto (tgt := 38) dX12_readsSum_34 (by decide) ?_
      refine sim_sub [1, 2, 0] rfl ?_
      exact hJ20 (1 : Int32)
theorem sX12_readsSum_l14 {K138 : AH → Option (Int32 × AH)} {x1 : Int32} (hK138 : ∀ (g : AH), Sim RX12 cX12_readsSum 3 (some .boolean) 5 (Option.map oI) (K138 g) 138 [(0, .ref 75), (1, .int x1)] [] g) : ∀ (n : Nat) (h : AH), Sim RX12 cX12_readsSum 3 (some .boolean) 5 (Option.map oI) (fX12_readsSum_l14 K138 x1 n h) 14 [(0, .ref 75), (1, .int x1)] [] h := by
  intro n
  induction n with
  | zero => intro h; exact sim_none
  | succ n ih => intro h; exact sX12_readsSum_l14b ih hK138 h
def fX12_readsSum (h : AH) : Option (Int32 × AH) :=
  (fX12_readsFactor h).bind (fun b1 =>
  if b1.1 = 0 then
    some ((0 : Int32), b1.2)
  else
    fX12_readsSum_l14 (fun (g31 : AH) =>
      (fX12_hasOpenSum (h.1 75 26) g31).bind (fun b32 =>
      if b32 = 0 then
        (fX12_closesSums (1 : Int32) g31).bind (fun b35 =>
        some ((1 : Int32), b35))
      else
        letT (fX12_wrongAt (1 : Int32) (g31.1 75 11) g31) (fun b37 =>
        if b37.1 = 0 ∨ b37.1 = 1 then some (b37.1, b37.2) else none))) (h.1 75 26) fuel0 b1.2)
theorem sX12_readsSum (h : AH) : Sim RX12 cX12_readsSum 3 (some .boolean) 5 (Option.map oI) (fX12_readsSum h) 0 [(0, .ref 75)] [] h := by
  unfold fX12_readsSum
  refine sim_aload_n 0 rfl dX12_readsSum_0 ?_
  refine sim_getI flX12_245 rfl rfl dX12_readsSum_1 ?_
  refine sim_istore_n (L' := [(1, .int (h.1 75 26)), (0, .ref 75)]) rfl (by decide) dX12_readsSum_4 ?_
  refine sim_aload_n 1 rfl dX12_readsSum_5 ?_
  refine sim_bind (fun b1 e2 => ?_)
  refine sim_cV (As := []) (st := []) (r := (some (.int b1.1))) (h1 := b1.2) (okX12_readsFactor h b1 e2) (fun _ => rfl) mlX12_264 mtX12_readsFactor rfl rfl rfl rfl (Nat.le_of_ble_eq_true rfl) rfl (Nat.le_of_ble_eq_true rfl) dX12_readsSum_6 ?_
  refine sim_if_ne (tgt := 14) dX12_readsSum_9 (by decide) (fun c3 => ?_) (fun c3 => ?_)
  · refine sim_sub [1, 0] rfl ?_
    refine sX12_readsSum_l14 (fun g31 => ?_) _ b1.2
    · refine sim_aload_n 0 rfl dX12_readsSum_138 ?_
      refine sim_iload_n 1 rfl dX12_readsSum_139 ?_
      refine sim_bind (fun b32 e33 => ?_)
      refine sim_cV (As := [.int (h.1 75 26)]) (st := []) (r := (some (.int b32))) (h1 := g31) (okX12_hasOpenSum (h.1 75 26) g31 b32 e33) (fun _ => rfl) mlX12_274 mtX12_hasOpenSum rfl rfl rfl rfl (Nat.le_of_ble_eq_true rfl) rfl (Nat.le_of_ble_eq_true rfl) dX12_readsSum_140 ?_
      refine sim_if_eq (tgt := 156) dX12_readsSum_143 (by decide) (fun c34 => ?_) (fun c34 => ?_)
      · refine sim_aload_n 0 rfl dX12_readsSum_156 ?_
        refine sim_iconst (v := 1) (by decide) dX12_readsSum_157 ?_
        refine sim_bind (fun b35 e36 => ?_)
        refine sim_cV (As := [.int (1 : Int32)]) (st := []) (r := none) (h1 := b35) (okX12_closesSums (1 : Int32) g31 b35 e36) (fun _ => rfl) mlX12_270 mtX12_closesSums rfl rfl rfl rfl (Nat.le_of_ble_eq_true rfl) rfl (Nat.le_of_ble_eq_true rfl) dX12_readsSum_158 ?_
        refine sim_iconst (v := 1) (by decide) dX12_readsSum_161 ?_
        exact sim_zret rfl rfl rfl dX12_readsSum_162
      · refine sim_aload_n 0 rfl dX12_readsSum_146 ?_
        refine sim_iconst (v := 1) (by decide) dX12_readsSum_147 ?_
        refine sim_aload_n 0 rfl dX12_readsSum_148 ?_
        refine sim_getI flX12_155 rfl rfl dX12_readsSum_149 ?_
        refine sim_cV (As := [.int (1 : Int32), .int (g31.1 75 11)]) (st := []) (r := (some (.int ((fX12_wrongAt (1 : Int32) (g31.1 75 11) g31).1)))) (h1 := (fX12_wrongAt (1 : Int32) (g31.1 75 11) g31).2) (okX12_wrongAt (1 : Int32) (g31.1 75 11) g31) (fun _ => rfl) mlX12_169 mtX12_wrongAt rfl rfl rfl rfl (Nat.le_of_ble_eq_true rfl) rfl (Nat.le_of_ble_eq_true rfl) dX12_readsSum_152 ?_
        refine sim_nmP (fun b37 => ?_)
        refine sim_guard (fun c38 => ?_)
        exact sim_zret rfl (nar_b c38) rfl dX12_readsSum_155
  · refine sim_iconst (v := 0) (by decide) dX12_readsSum_12 ?_
    exact sim_zret rfl rfl rfl dX12_readsSum_13
theorem okX12_readsSum (h : AH) (b : Int32 × AH) (e : fX12_readsSum h = some b) : Ok yX12_readsSum cX12_readsSum 3 (some .boolean) 5 [.ref 75] h (some (.int b.1), b.2) := ok_of (sX12_readsSum h) (by rw [e]; rfl) (by decide +kernel) (Nat.le_of_ble_eq_true rfl)
def fX12_endsPiece_l0b (rec : AH → Option AH) (h : AH) : Option AH :=
  (fX12_waitTop h).bind (fun b8 =>
  if b8 = (10 : Int32) then
    (fX12_notes (10 : Int32) (0 : Int32) h).bind (fun b11 =>
    letT (sI b11 75 26 ((b11.1 75 26) - (1 : Int32))) (fun g13 =>
    letT (sI g13 75 24 ((g13.1 75 24) - (1 : Int32))) (fun g14 =>
    rec g14)))
  else
    some h)
def fX12_endsPiece_l0 : Nat → AH → Option AH
  | 0, _ => none
  | n + 1, h => fX12_endsPiece_l0b (fX12_endsPiece_l0 n) h
theorem sX12_endsPiece_l0b {rec : AH → Option AH} (hR : ∀ (h : AH), Sim RX12 cX12_endsPiece 1 none 2 (Option.map oV) (rec h) 0 [(0, .ref 75)] [] h) : ∀ (h : AH), Sim RX12 cX12_endsPiece 1 none 2 (Option.map oV) (fX12_endsPiece_l0b rec h) 0 [(0, .ref 75)] [] h := by
  intro h
  unfold fX12_endsPiece_l0b
  refine sim_aload_n 0 rfl dX12_endsPiece_0 ?_
  refine sim_bind (fun b8 e9 => ?_)
  refine sim_cV (As := []) (st := []) (r := (some (.int b8))) (h1 := h) (okX12_waitTop h b8 e9) (fun _ => rfl) mlX12_248 mtX12_waitTop rfl rfl rfl rfl (Nat.le_of_ble_eq_true rfl) rfl (Nat.le_of_ble_eq_true rfl) dX12_endsPiece_1 ?_
  refine sim_bipush (v := 10) (by decide) dX12_endsPiece_4 ?_
  refine sim_icmp_ne (tgt := 39) dX12_endsPiece_6 (by decide) (fun c10 => ?_) (fun c10 => ?_)
  · exact sim_vret rfl rfl dX12_endsPiece_39
  · refine sim_aload_n 0 rfl dX12_endsPiece_9 ?_
    refine sim_bipush (v := 10) (by decide) dX12_endsPiece_10 ?_
    refine sim_iconst (v := 0) (by decide) dX12_endsPiece_12 ?_
    refine sim_bind (fun b11 e12 => ?_)
    refine sim_cV (As := [.int (10 : Int32), .int (0 : Int32)]) (st := []) (r := none) (h1 := b11) (okX12_notes (10 : Int32) (0 : Int32) h b11 e12) (fun _ => rfl) mlX12_251 mtX12_notes rfl rfl rfl rfl (Nat.le_of_ble_eq_true rfl) rfl (Nat.le_of_ble_eq_true rfl) dX12_endsPiece_13 ?_
    refine sim_aload_n 0 rfl dX12_endsPiece_16 ?_
    refine sim_aload_n 0 rfl dX12_endsPiece_17 ?_
    refine sim_getI flX12_245 rfl rfl dX12_endsPiece_18 ?_
    refine sim_iconst (v := 1) (by decide) dX12_endsPiece_21 ?_
    refine sim_isub dX12_endsPiece_22 ?_
    refine sim_putI fpX12_245 rfl rfl rfl rfl dX12_endsPiece_23 ?_
    refine sim_nmH (fun g13 => ?_)
    refine sim_aload_n 0 rfl dX12_endsPiece_26 ?_
    refine sim_aload_n 0 rfl dX12_endsPiece_27 ?_
    refine sim_getI flX12_242 rfl rfl dX12_endsPiece_28 ?_
    refine sim_iconst (v := 1) (by decide) dX12_endsPiece_31 ?_
    refine sim_isub dX12_endsPiece_32 ?_
    refine sim_putI fpX12_242 rfl rfl rfl rfl dX12_endsPiece_33 ?_
    refine sim_nmH (fun g14 => ?_)
    refine sim_goto (tgt := 0) dX12_endsPiece_36 (by decide) ?_
    exact hR g14
theorem sX12_endsPiece_l0 : ∀ (n : Nat) (h : AH), Sim RX12 cX12_endsPiece 1 none 2 (Option.map oV) (fX12_endsPiece_l0 n h) 0 [(0, .ref 75)] [] h := by
  intro n
  induction n with
  | zero => intro h; exact sim_none
  | succ n ih => intro h; exact sX12_endsPiece_l0b ih h
def fX12_endsPiece (h : AH) : Option AH :=
  (fX12_waitTop h).bind (fun b1 =>
  if b1 = (10 : Int32) then
    (fX12_notes (10 : Int32) (0 : Int32) h).bind (fun b4 =>
    letT (sI b4 75 26 ((b4.1 75 26) - (1 : Int32))) (fun g6 =>
    letT (sI g6 75 24 ((g6.1 75 24) - (1 : Int32))) (fun g7 =>
    fX12_endsPiece_l0 fuel0 g7)))
  else
    some h)
theorem sX12_endsPiece (h : AH) : Sim RX12 cX12_endsPiece 1 none 2 (Option.map oV) (fX12_endsPiece h) 0 [(0, .ref 75)] [] h := by
  unfold fX12_endsPiece
  refine sim_aload_n 0 rfl dX12_endsPiece_0 ?_
  refine sim_bind (fun b1 e2 => ?_)
  refine sim_cV (As := []) (st := []) (r := (some (.int b1))) (h1 := h) (okX12_waitTop h b1 e2) (fun _ => rfl) mlX12_248 mtX12_waitTop rfl rfl rfl rfl (Nat.le_of_ble_eq_true rfl) rfl (Nat.le_of_ble_eq_true rfl) dX12_endsPiece_1 ?_
  refine sim_bipush (v := 10) (by decide) dX12_endsPiece_4 ?_
  refine sim_icmp_ne (tgt := 39) dX12_endsPiece_6 (by decide) (fun c3 => ?_) (fun c3 => ?_)
  · exact sim_vret rfl rfl dX12_endsPiece_39
  · refine sim_aload_n 0 rfl dX12_endsPiece_9 ?_
    refine sim_bipush (v := 10) (by decide) dX12_endsPiece_10 ?_
    refine sim_iconst (v := 0) (by decide) dX12_endsPiece_12 ?_
    refine sim_bind (fun b4 e5 => ?_)
    refine sim_cV (As := [.int (10 : Int32), .int (0 : Int32)]) (st := []) (r := none) (h1 := b4) (okX12_notes (10 : Int32) (0 : Int32) h b4 e5) (fun _ => rfl) mlX12_251 mtX12_notes rfl rfl rfl rfl (Nat.le_of_ble_eq_true rfl) rfl (Nat.le_of_ble_eq_true rfl) dX12_endsPiece_13 ?_
    refine sim_aload_n 0 rfl dX12_endsPiece_16 ?_
    refine sim_aload_n 0 rfl dX12_endsPiece_17 ?_
    refine sim_getI flX12_245 rfl rfl dX12_endsPiece_18 ?_
    refine sim_iconst (v := 1) (by decide) dX12_endsPiece_21 ?_
    refine sim_isub dX12_endsPiece_22 ?_
    refine sim_putI fpX12_245 rfl rfl rfl rfl dX12_endsPiece_23 ?_
    refine sim_nmH (fun g6 => ?_)
    refine sim_aload_n 0 rfl dX12_endsPiece_26 ?_
    refine sim_aload_n 0 rfl dX12_endsPiece_27 ?_
    refine sim_getI flX12_242 rfl rfl dX12_endsPiece_28 ?_
    refine sim_iconst (v := 1) (by decide) dX12_endsPiece_31 ?_
    refine sim_isub dX12_endsPiece_32 ?_
    refine sim_putI fpX12_242 rfl rfl rfl rfl dX12_endsPiece_33 ?_
    refine sim_nmH (fun g7 => ?_)
    refine sim_goto (tgt := 0) dX12_endsPiece_36 (by decide) ?_
    refine sX12_endsPiece_l0 _ g7
theorem okX12_endsPiece (h : AH) (b : AH) (e : fX12_endsPiece h = some b) : Ok yX12_endsPiece cX12_endsPiece 1 none 2 [.ref 75] h (none, b) := ok_of (sX12_endsPiece h) (by rw [e]; rfl) (by decide +kernel) (Nat.le_of_ble_eq_true rfl)
def fX12_readsCompared (h : AH) : Option (Int32 × AH) :=
  (fX12_readsSum h).bind (fun b1 =>
  if b1.1 = 0 then
    some ((0 : Int32), b1.2)
  else
    (fX12_here b1.2).bind (fun b4 =>
    letT (fun (w6 : Int32) =>
      if w6 = (-1 : Int32) then
        letT (fX12_wrongAt (1 : Int32) (b1.2.1 75 11) b1.2) (fun b17 =>
        if b17.1 = 0 ∨ b17.1 = 1 then some (b17.1, b17.2) else none)
      else
        letT (sI b1.2 75 11 ((b1.2.1 75 11) + (1 : Int32))) (fun g9 =>
        (fX12_readsSum g9).bind (fun b10 =>
        if b10.1 = 0 then
          some ((0 : Int32), b10.2)
        else
          (fX12_notes w6 (0 : Int32) b10.2).bind (fun b13 =>
          (fX12_endsPiece b13).bind (fun b15 =>
          some ((1 : Int32), b15)))))) (fun J7 =>
    if b4 = (60 : Int32) then
      J7 (7 : Int32)
    else
      (fX12_here b1.2).bind (fun b20 =>
      if b20 = (62 : Int32) then
        J7 (8 : Int32)
      else
        (fX12_here b1.2).bind (fun b23 =>
        if b23 = (61 : Int32) then
          J7 (9 : Int32)
        else
          J7 (-1 : Int32))))))
theorem sX12_readsCompared (h : AH) : Sim RX12 cX12_readsCompared 2 (some .boolean) 6 (Option.map oI) (fX12_readsCompared h) 0 [(0, .ref 75)] [] h := by
  unfold fX12_readsCompared
  refine sim_aload_n 0 rfl dX12_readsCompared_0 ?_
  refine sim_bind (fun b1 e2 => ?_)
  refine sim_cV (As := []) (st := []) (r := (some (.int b1.1))) (h1 := b1.2) (okX12_readsSum h b1 e2) (fun _ => rfl) mlX12_277 mtX12_readsSum rfl rfl rfl rfl (Nat.le_of_ble_eq_true rfl) rfl (Nat.le_of_ble_eq_true rfl) dX12_readsCompared_1 ?_
  refine sim_if_ne (tgt := 9) dX12_readsCompared_4 (by decide) (fun c3 => ?_) (fun c3 => ?_)
  · refine sim_aload_n 0 rfl dX12_readsCompared_9 ?_
    refine sim_bind (fun b4 e5 => ?_)
    refine sim_cV (As := []) (st := []) (r := (some (.int b4))) (h1 := b1.2) (okX12_here b1.2 b4 e5) (fun _ => rfl) mlX12_165 mtX12_here rfl rfl rfl rfl (Nat.le_of_ble_eq_true rfl) rfl (Nat.le_of_ble_eq_true rfl) dX12_readsCompared_10 ?_
    refine sim_bipush (v := 60) (by decide) dX12_readsCompared_13 ?_
    refine sim_letJ (fun J7 => ∀ (w6 : Int32), Sim RX12 cX12_readsCompared 2 (some .boolean) 6 (Option.map oI) (J7 w6) 52 [(0, .ref 75)] [.int w6] b1.2) (fun w6 => ?_) (fun J7 hJ7 => ?_)
    · refine sim_istore_n (L' := [(1, .int w6), (0, .ref 75)]) rfl (by decide) dX12_readsCompared_52 ?_
      refine sim_iload_n 0 rfl dX12_readsCompared_53 ?_
      refine sim_iconst (v := -1) (by decide) dX12_readsCompared_54 ?_
      refine sim_icmp_ne (tgt := 68) dX12_readsCompared_55 (by decide) (fun c8 => ?_) (fun c8 => ?_)
      · refine sim_aload_n 1 rfl dX12_readsCompared_68 ?_
        refine sim_aload_n 1 rfl dX12_readsCompared_69 ?_
        refine sim_getI flX12_155 rfl rfl dX12_readsCompared_70 ?_
        refine sim_iconst (v := 1) (by decide) dX12_readsCompared_73 ?_
        refine sim_iadd dX12_readsCompared_74 ?_
        refine sim_putI fpX12_155 rfl rfl rfl rfl dX12_readsCompared_75 ?_
        refine sim_nmH (fun g9 => ?_)
        refine sim_aload_n 1 rfl dX12_readsCompared_78 ?_
        refine sim_bind (fun b10 e11 => ?_)
        refine sim_cV (As := []) (st := []) (r := (some (.int b10.1))) (h1 := b10.2) (okX12_readsSum g9 b10 e11) (fun _ => rfl) mlX12_277 mtX12_readsSum rfl rfl rfl rfl (Nat.le_of_ble_eq_true rfl) rfl (Nat.le_of_ble_eq_true rfl) dX12_readsCompared_79 ?_
        refine sim_if_ne (tgt := 87) dX12_readsCompared_82 (by decide) (fun c12 => ?_) (fun c12 => ?_)
        · refine sim_aload_n 1 rfl dX12_readsCompared_87 ?_
          refine sim_iload_n 0 rfl dX12_readsCompared_88 ?_
          refine sim_iconst (v := 0) (by decide) dX12_readsCompared_89 ?_
          refine sim_bind (fun b13 e14 => ?_)
          refine sim_cV (As := [.int w6, .int (0 : Int32)]) (st := []) (r := none) (h1 := b13) (okX12_notes w6 (0 : Int32) b10.2 b13 e14) (fun _ => rfl) mlX12_251 mtX12_notes rfl rfl rfl rfl (Nat.le_of_ble_eq_true rfl) rfl (Nat.le_of_ble_eq_true rfl) dX12_readsCompared_90 ?_
          refine sim_aload_n 1 rfl dX12_readsCompared_93 ?_
          refine sim_bind (fun b15 e16 => ?_)
          refine sim_cV (As := []) (st := []) (r := none) (h1 := b15) (okX12_endsPiece b13 b15 e16) (fun _ => rfl) mlX12_280 mtX12_endsPiece rfl rfl rfl rfl (Nat.le_of_ble_eq_true rfl) rfl (Nat.le_of_ble_eq_true rfl) dX12_readsCompared_94 ?_
          refine sim_iconst (v := 1) (by decide) dX12_readsCompared_97 ?_
          exact sim_zret rfl rfl rfl dX12_readsCompared_98
        · refine sim_iconst (v := 0) (by decide) dX12_readsCompared_85 ?_
          exact sim_zret rfl rfl rfl dX12_readsCompared_86
      · refine sim_aload_n 1 rfl dX12_readsCompared_58 ?_
        refine sim_iconst (v := 1) (by decide) dX12_readsCompared_59 ?_
        refine sim_aload_n 1 rfl dX12_readsCompared_60 ?_
        refine sim_getI flX12_155 rfl rfl dX12_readsCompared_61 ?_
        refine sim_cV (As := [.int (1 : Int32), .int (b1.2.1 75 11)]) (st := []) (r := (some (.int ((fX12_wrongAt (1 : Int32) (b1.2.1 75 11) b1.2).1)))) (h1 := (fX12_wrongAt (1 : Int32) (b1.2.1 75 11) b1.2).2) (okX12_wrongAt (1 : Int32) (b1.2.1 75 11) b1.2) (fun _ => rfl) mlX12_169 mtX12_wrongAt rfl rfl rfl rfl (Nat.le_of_ble_eq_true rfl) rfl (Nat.le_of_ble_eq_true rfl) dX12_readsCompared_64 ?_
        refine sim_nmP (fun b17 => ?_)
        refine sim_guard (fun c18 => ?_)
        exact sim_zret rfl (nar_b c18) rfl dX12_readsCompared_67
    refine sim_icmp_ne (tgt := 23) dX12_readsCompared_15 (by decide) (fun c19 => ?_) (fun c19 => ?_)
    · refine sim_aload_n 0 rfl dX12_readsCompared_23 ?_
      refine sim_bind (fun b20 e21 => ?_)
      refine sim_cV (As := []) (st := []) (r := (some (.int b20))) (h1 := b1.2) (okX12_here b1.2 b20 e21) (fun _ => rfl) mlX12_165 mtX12_here rfl rfl rfl rfl (Nat.le_of_ble_eq_true rfl) rfl (Nat.le_of_ble_eq_true rfl) dX12_readsCompared_24 ?_
      refine sim_bipush (v := 62) (by decide) dX12_readsCompared_27 ?_
      refine sim_icmp_ne (tgt := 37) dX12_readsCompared_29 (by decide) (fun c22 => ?_) (fun c22 => ?_)
      · refine sim_aload_n 0 rfl dX12_readsCompared_37 ?_
        refine sim_bind (fun b23 e24 => ?_)
        refine sim_cV (As := []) (st := []) (r := (some (.int b23))) (h1 := b1.2) (okX12_here b1.2 b23 e24) (fun _ => rfl) mlX12_165 mtX12_here rfl rfl rfl rfl (Nat.le_of_ble_eq_true rfl) rfl (Nat.le_of_ble_eq_true rfl) dX12_readsCompared_38 ?_
        refine sim_bipush (v := 61) (by decide) dX12_readsCompared_41 ?_
        refine sim_icmp_ne (tgt := 51) dX12_readsCompared_43 (by decide) (fun c25 => ?_) (fun c25 => ?_)
        · refine sim_iconst (v := -1) (by decide) dX12_readsCompared_51 ?_
          exact hJ7 (-1 : Int32)
        · refine sim_bipush (v := 9) (by decide) dX12_readsCompared_46 ?_
          refine sim_goto (tgt := 52) dX12_readsCompared_48 (by decide) ?_
          exact hJ7 (9 : Int32)
      · refine sim_bipush (v := 8) (by decide) dX12_readsCompared_32 ?_
        refine sim_goto (tgt := 52) dX12_readsCompared_34 (by decide) ?_
        exact hJ7 (8 : Int32)
    · refine sim_bipush (v := 7) (by decide) dX12_readsCompared_18 ?_
      refine sim_goto (tgt := 52) dX12_readsCompared_20 (by decide) ?_
      exact hJ7 (7 : Int32)
  · refine sim_iconst (v := 0) (by decide) dX12_readsCompared_7 ?_
    exact sim_zret rfl rfl rfl dX12_readsCompared_8
theorem okX12_readsCompared (h : AH) (b : Int32 × AH) (e : fX12_readsCompared h = some b) : Ok yX12_readsCompared cX12_readsCompared 2 (some .boolean) 6 [.ref 75] h (some (.int b.1), b.2) := ok_of (sX12_readsCompared h) (by rw [e]; rfl) (by decide +kernel) (Nat.le_of_ble_eq_true rfl)
def fX12_lands_l0b (rec : AH → Option AH) (x1 : Int32) (h : AH) : Option AH :=
  (fX12_waitTop h).bind (fun b10 =>
  letT (if ((h.1 75 26) - (1 : Int32)) < 0 ∨ 220 ≤ ((h.1 75 26) - (1 : Int32)).toNatClampNeg then none else
    letT (jrem (h.1 92 ((h.1 75 26) - (1 : Int32)).toNatClampNeg) (1048576 : Int32)) (fun v14 =>
    if v14 < 0 ∨ 220 ≤ v14.toNatClampNeg then none else
    if v14 < 0 ∨ 220 ≤ v14.toNatClampNeg then none else
    letT (sI h 91 v14.toNatClampNeg (((1048576 : Int32) * ((h.1 91 v14.toNatClampNeg) / (1048576 : Int32))) + (h.1 75 25))) (fun g17 =>
    letT (sI g17 75 26 ((g17.1 75 26) - (1 : Int32))) (fun g18 =>
    rec g18)))) (fun J12 =>
  if b10 = (11 : Int32) then
    J12
  else
    if x1 = 0 then
      some h
    else
      (fX12_waitTop h).bind (fun b21 =>
      if b21 = (12 : Int32) then
        J12
      else
        some h)))
def fX12_lands_l0 (x1 : Int32) : Nat → AH → Option AH
  | 0, _ => none
  | n + 1, h => fX12_lands_l0b (fX12_lands_l0 x1 n) x1 h
theorem sX12_lands_l0b {rec : AH → Option AH} {x1 : Int32} (hR : ∀ (h : AH), Sim RX12 cX12_lands 3 none 2 (Option.map oV) (rec h) 0 [(0, .ref 75), (1, .int x1)] [] h) : ∀ (h : AH), Sim RX12 cX12_lands 3 none 2 (Option.map oV) (fX12_lands_l0b rec x1 h) 0 [(0, .ref 75), (1, .int x1)] [] h := by
  intro h
  unfold fX12_lands_l0b
  refine sim_aload_n 0 rfl dX12_lands_0 ?_
  refine sim_bind (fun b10 e11 => ?_)
  refine sim_cV (As := []) (st := []) (r := (some (.int b10))) (h1 := h) (okX12_waitTop h b10 e11) (fun _ => rfl) mlX12_248 mtX12_waitTop rfl rfl rfl rfl (Nat.le_of_ble_eq_true rfl) rfl (Nat.le_of_ble_eq_true rfl) dX12_lands_1 ?_
  refine sim_bipush (v := 11) (by decide) dX12_lands_4 ?_
  refine sim_letJ (fun J12 => Sim RX12 cX12_lands 3 none 2 (Option.map oV) (J12) 22 [(0, .ref 75), (1, .int x1)] [] h) (?_) (fun J12 hJ12 => ?_)
  · refine sim_aload_n 0 rfl dX12_lands_22 ?_
    refine sim_getR flX12_59 rfl rfl dX12_lands_23 ?_
    refine sim_aload_n 0 rfl dX12_lands_26 ?_
    refine sim_getI flX12_245 rfl rfl dX12_lands_27 ?_
    refine sim_iconst (v := 1) (by decide) dX12_lands_30 ?_
    refine sim_isub dX12_lands_31 ?_
    refine sim_nguard (fun c13 => ?_)
    refine sim_iald rfl c13 dX12_lands_32 ?_
    refine sim_ldc kcX12_241 dX12_lands_33 ?_
    refine sim_irem (by decide) dX12_lands_35 ?_
    refine sim_nmI (fun v14 => ?_)
    refine sim_istore_n (L' := [(2, .int v14), (0, .ref 75), (1, .int x1)]) rfl (by decide) dX12_lands_36 ?_
    refine sim_aload_n 1 rfl dX12_lands_37 ?_
    refine sim_getR flX12_56 rfl rfl dX12_lands_38 ?_
    refine sim_iload_n 0 rfl dX12_lands_41 ?_
    refine sim_ldc kcX12_241 dX12_lands_42 ?_
    refine sim_aload_n 1 rfl dX12_lands_44 ?_
    refine sim_getR flX12_56 rfl rfl dX12_lands_45 ?_
    refine sim_iload_n 0 rfl dX12_lands_48 ?_
    refine sim_nguard (fun c15 => ?_)
    refine sim_iald rfl c15 dX12_lands_49 ?_
    refine sim_ldc kcX12_241 dX12_lands_50 ?_
    refine sim_idiv (by decide) dX12_lands_52 ?_
    refine sim_imul dX12_lands_53 ?_
    refine sim_aload_n 1 rfl dX12_lands_54 ?_
    refine sim_getI flX12_238 rfl rfl dX12_lands_55 ?_
    refine sim_iadd dX12_lands_58 ?_
    refine sim_nguard (fun c16 => ?_)
    refine sim_iast rfl c16 dX12_lands_59 ?_
    refine sim_nmH (fun g17 => ?_)
    refine sim_aload_n 1 rfl dX12_lands_60 ?_
    refine sim_aload_n 1 rfl dX12_lands_61 ?_
    refine sim_getI flX12_245 rfl rfl dX12_lands_62 ?_
    refine sim_iconst (v := 1) (by decide) dX12_lands_65 ?_
    refine sim_isub dX12_lands_66 ?_
    refine sim_putI fpX12_245 rfl rfl rfl rfl dX12_lands_67 ?_
    refine sim_nmH (fun g18 => ?_)
    refine sim_goto (tgt := 0) dX12_lands_70 (by decide) ?_
    refine sim_sub [1, 2] rfl ?_
    exact hR g18
  refine sim_icmp_eq (tgt := 22) dX12_lands_6 (by decide) (fun c19 => ?_) (fun c19 => ?_)
  · exact hJ12
  · refine sim_iload_n 1 rfl dX12_lands_9 ?_
    refine sim_if_eq (tgt := 73) dX12_lands_10 (by decide) (fun c20 => ?_) (fun c20 => ?_)
    · exact sim_vret rfl rfl dX12_lands_73
    · refine sim_aload_n 0 rfl dX12_lands_13 ?_
      refine sim_bind (fun b21 e22 => ?_)
      refine sim_cV (As := []) (st := []) (r := (some (.int b21))) (h1 := h) (okX12_waitTop h b21 e22) (fun _ => rfl) mlX12_248 mtX12_waitTop rfl rfl rfl rfl (Nat.le_of_ble_eq_true rfl) rfl (Nat.le_of_ble_eq_true rfl) dX12_lands_14 ?_
      refine sim_bipush (v := 12) (by decide) dX12_lands_17 ?_
      refine sim_icmp_ne (tgt := 73) dX12_lands_19 (by decide) (fun c23 => ?_) (fun c23 => ?_)
      · exact sim_vret rfl rfl dX12_lands_73
      · exact hJ12
theorem sX12_lands_l0 {x1 : Int32} : ∀ (n : Nat) (h : AH), Sim RX12 cX12_lands 3 none 2 (Option.map oV) (fX12_lands_l0 x1 n h) 0 [(0, .ref 75), (1, .int x1)] [] h := by
  intro n
  induction n with
  | zero => intro h; exact sim_none
  | succ n ih => intro h; exact sX12_lands_l0b ih h
def fX12_lands (p1 : Int32) (h : AH) : Option AH :=
  (fX12_waitTop h).bind (fun b1 =>
  letT (if ((h.1 75 26) - (1 : Int32)) < 0 ∨ 220 ≤ ((h.1 75 26) - (1 : Int32)).toNatClampNeg then none else
    letT (jrem (h.1 92 ((h.1 75 26) - (1 : Int32)).toNatClampNeg) (1048576 : Int32)) (fun v5 =>
    if v5 < 0 ∨ 220 ≤ v5.toNatClampNeg then none else
    if v5 < 0 ∨ 220 ≤ v5.toNatClampNeg then none else
    letT (sI h 91 v5.toNatClampNeg (((1048576 : Int32) * ((h.1 91 v5.toNatClampNeg) / (1048576 : Int32))) + (h.1 75 25))) (fun g8 =>
    letT (sI g8 75 26 ((g8.1 75 26) - (1 : Int32))) (fun g9 =>
    fX12_lands_l0 p1 fuel0 g9)))) (fun J3 =>
  if b1 = (11 : Int32) then
    J3
  else
    if p1 = 0 then
      some h
    else
      (fX12_waitTop h).bind (fun b26 =>
      if b26 = (12 : Int32) then
        J3
      else
        some h)))
theorem sX12_lands (p1 : Int32) (h : AH) : Sim RX12 cX12_lands 3 none 2 (Option.map oV) (fX12_lands p1 h) 0 [(0, .ref 75), (1, .int p1)] [] h := by
  unfold fX12_lands
  refine sim_aload_n 0 rfl dX12_lands_0 ?_
  refine sim_bind (fun b1 e2 => ?_)
  refine sim_cV (As := []) (st := []) (r := (some (.int b1))) (h1 := h) (okX12_waitTop h b1 e2) (fun _ => rfl) mlX12_248 mtX12_waitTop rfl rfl rfl rfl (Nat.le_of_ble_eq_true rfl) rfl (Nat.le_of_ble_eq_true rfl) dX12_lands_1 ?_
  refine sim_bipush (v := 11) (by decide) dX12_lands_4 ?_
  refine sim_letJ (fun J3 => Sim RX12 cX12_lands 3 none 2 (Option.map oV) (J3) 22 [(0, .ref 75), (1, .int p1)] [] h) (?_) (fun J3 hJ3 => ?_)
  · refine sim_aload_n 0 rfl dX12_lands_22 ?_
    refine sim_getR flX12_59 rfl rfl dX12_lands_23 ?_
    refine sim_aload_n 0 rfl dX12_lands_26 ?_
    refine sim_getI flX12_245 rfl rfl dX12_lands_27 ?_
    refine sim_iconst (v := 1) (by decide) dX12_lands_30 ?_
    refine sim_isub dX12_lands_31 ?_
    refine sim_nguard (fun c4 => ?_)
    refine sim_iald rfl c4 dX12_lands_32 ?_
    refine sim_ldc kcX12_241 dX12_lands_33 ?_
    refine sim_irem (by decide) dX12_lands_35 ?_
    refine sim_nmI (fun v5 => ?_)
    refine sim_istore_n (L' := [(2, .int v5), (0, .ref 75), (1, .int p1)]) rfl (by decide) dX12_lands_36 ?_
    refine sim_aload_n 1 rfl dX12_lands_37 ?_
    refine sim_getR flX12_56 rfl rfl dX12_lands_38 ?_
    refine sim_iload_n 0 rfl dX12_lands_41 ?_
    refine sim_ldc kcX12_241 dX12_lands_42 ?_
    refine sim_aload_n 1 rfl dX12_lands_44 ?_
    refine sim_getR flX12_56 rfl rfl dX12_lands_45 ?_
    refine sim_iload_n 0 rfl dX12_lands_48 ?_
    refine sim_nguard (fun c6 => ?_)
    refine sim_iald rfl c6 dX12_lands_49 ?_
    refine sim_ldc kcX12_241 dX12_lands_50 ?_
    refine sim_idiv (by decide) dX12_lands_52 ?_
    refine sim_imul dX12_lands_53 ?_
    refine sim_aload_n 1 rfl dX12_lands_54 ?_
    refine sim_getI flX12_238 rfl rfl dX12_lands_55 ?_
    refine sim_iadd dX12_lands_58 ?_
    refine sim_nguard (fun c7 => ?_)
    refine sim_iast rfl c7 dX12_lands_59 ?_
    refine sim_nmH (fun g8 => ?_)
    refine sim_aload_n 1 rfl dX12_lands_60 ?_
    refine sim_aload_n 1 rfl dX12_lands_61 ?_
    refine sim_getI flX12_245 rfl rfl dX12_lands_62 ?_
    refine sim_iconst (v := 1) (by decide) dX12_lands_65 ?_
    refine sim_isub dX12_lands_66 ?_
    refine sim_putI fpX12_245 rfl rfl rfl rfl dX12_lands_67 ?_
    refine sim_nmH (fun g9 => ?_)
    refine sim_goto (tgt := 0) dX12_lands_70 (by decide) ?_
    refine sim_sub [1, 2] rfl ?_
    refine sX12_lands_l0 _ g9
  refine sim_icmp_eq (tgt := 22) dX12_lands_6 (by decide) (fun c24 => ?_) (fun c24 => ?_)
  · exact hJ3
  · refine sim_iload_n 1 rfl dX12_lands_9 ?_
    refine sim_if_eq (tgt := 73) dX12_lands_10 (by decide) (fun c25 => ?_) (fun c25 => ?_)
    · exact sim_vret rfl rfl dX12_lands_73
    · refine sim_aload_n 0 rfl dX12_lands_13 ?_
      refine sim_bind (fun b26 e27 => ?_)
      refine sim_cV (As := []) (st := []) (r := (some (.int b26))) (h1 := h) (okX12_waitTop h b26 e27) (fun _ => rfl) mlX12_248 mtX12_waitTop rfl rfl rfl rfl (Nat.le_of_ble_eq_true rfl) rfl (Nat.le_of_ble_eq_true rfl) dX12_lands_14 ?_
      refine sim_bipush (v := 12) (by decide) dX12_lands_17 ?_
      refine sim_icmp_ne (tgt := 73) dX12_lands_19 (by decide) (fun c28 => ?_) (fun c28 => ?_)
      · exact sim_vret rfl rfl dX12_lands_73
      · exact hJ3
theorem okX12_lands (p1 : Int32) (h : AH) (b : AH) (e : fX12_lands p1 h = some b) : Ok yX12_lands cX12_lands 3 none 2 [.ref 75, .int p1] h (none, b) := ok_of (sX12_lands p1 h) (by rw [e]; rfl) (by decide +kernel) (Nat.le_of_ble_eq_true rfl)
def fX12_jumps (p1 : Int32) (h : AH) : Option AH :=
  if (h.1 75 26) < 0 ∨ 220 ≤ (h.1 75 26).toNatClampNeg then none else
  letT (sI h 92 (h.1 75 26).toNatClampNeg (((1048576 : Int32) * p1) + (h.1 75 25))) (fun g2 =>
  letT (sI g2 75 26 ((g2.1 75 26) + (1 : Int32))) (fun g3 =>
  (fX12_notes p1 (0 : Int32) g3).bind (fun b4 =>
  letT (sI b4 75 11 ((b4.1 75 11) + (1 : Int32))) (fun g6 =>
  some g6))))
theorem sX12_jumps (p1 : Int32) (h : AH) : Sim RX12 cX12_jumps 2 none 2 (Option.map oV) (fX12_jumps p1 h) 0 [(0, .ref 75), (1, .int p1)] [] h := by
  unfold fX12_jumps
  refine sim_aload_n 0 rfl dX12_jumps_0 ?_
  refine sim_getR flX12_59 rfl rfl dX12_jumps_1 ?_
  refine sim_aload_n 0 rfl dX12_jumps_4 ?_
  refine sim_getI flX12_245 rfl rfl dX12_jumps_5 ?_
  refine sim_ldc kcX12_241 dX12_jumps_8 ?_
  refine sim_iload_n 1 rfl dX12_jumps_10 ?_
  refine sim_imul dX12_jumps_11 ?_
  refine sim_aload_n 0 rfl dX12_jumps_12 ?_
  refine sim_getI flX12_238 rfl rfl dX12_jumps_13 ?_
  refine sim_iadd dX12_jumps_16 ?_
  refine sim_nguard (fun c1 => ?_)
  refine sim_iast rfl c1 dX12_jumps_17 ?_
  refine sim_nmH (fun g2 => ?_)
  refine sim_aload_n 0 rfl dX12_jumps_18 ?_
  refine sim_aload_n 0 rfl dX12_jumps_19 ?_
  refine sim_getI flX12_245 rfl rfl dX12_jumps_20 ?_
  refine sim_iconst (v := 1) (by decide) dX12_jumps_23 ?_
  refine sim_iadd dX12_jumps_24 ?_
  refine sim_putI fpX12_245 rfl rfl rfl rfl dX12_jumps_25 ?_
  refine sim_nmH (fun g3 => ?_)
  refine sim_aload_n 0 rfl dX12_jumps_28 ?_
  refine sim_iload_n 1 rfl dX12_jumps_29 ?_
  refine sim_iconst (v := 0) (by decide) dX12_jumps_30 ?_
  refine sim_bind (fun b4 e5 => ?_)
  refine sim_cV (As := [.int p1, .int (0 : Int32)]) (st := []) (r := none) (h1 := b4) (okX12_notes p1 (0 : Int32) g3 b4 e5) (fun _ => rfl) mlX12_251 mtX12_notes rfl rfl rfl rfl (Nat.le_of_ble_eq_true rfl) rfl (Nat.le_of_ble_eq_true rfl) dX12_jumps_31 ?_
  refine sim_aload_n 0 rfl dX12_jumps_34 ?_
  refine sim_aload_n 0 rfl dX12_jumps_35 ?_
  refine sim_getI flX12_155 rfl rfl dX12_jumps_36 ?_
  refine sim_iconst (v := 1) (by decide) dX12_jumps_39 ?_
  refine sim_iadd dX12_jumps_40 ?_
  refine sim_putI fpX12_155 rfl rfl rfl rfl dX12_jumps_41 ?_
  refine sim_nmH (fun g6 => ?_)
  exact sim_vret rfl rfl dX12_jumps_44
theorem okX12_jumps (p1 : Int32) (h : AH) (b : AH) (e : fX12_jumps p1 h = some b) : Ok yX12_jumps cX12_jumps 2 none 2 [.ref 75, .int p1] h (none, b) := ok_of (sX12_jumps p1 h) (by rw [e]; rfl) (by decide +kernel) (Nat.le_of_ble_eq_true rfl)
def fX12_readsCondition_l92b (rec : AH → Option (Int32 × AH)) (K152 : AH → Option (Int32 × AH)) (h : AH) : Option (Int32 × AH) :=
  (fX12_here h).bind (fun b28 =>
  if b28 = (41 : Int32) then
    (fX12_lands (1 : Int32) h).bind (fun b31 =>
    letT (sI b31 75 26 ((b31.1 75 26) - (1 : Int32))) (fun g33 =>
    letT (sI g33 75 24 ((g33.1 75 24) - (1 : Int32))) (fun g34 =>
    letT (sI g34 75 11 ((g34.1 75 11) + (1 : Int32))) (fun g35 =>
    if (g35.1 75 26) = 0 then
      some ((1 : Int32), g35)
    else
      (fX12_endsPiece g35).bind (fun b37 =>
      rec b37)))))
  else
    K152 h)
def fX12_readsCondition_l92 (K152 : AH → Option (Int32 × AH)) : Nat → AH → Option (Int32 × AH)
  | 0, _ => none
  | n + 1, h => fX12_readsCondition_l92b (fX12_readsCondition_l92 K152 n) K152 h
theorem sX12_readsCondition_l92b {rec : AH → Option (Int32 × AH)} {K152 : AH → Option (Int32 × AH)} (hR : ∀ (h : AH), Sim RX12 cX12_readsCondition 1 (some .boolean) 7 (Option.map oI) (rec h) 92 [(0, .ref 75)] [] h) (hK152 : ∀ (g : AH), Sim RX12 cX12_readsCondition 1 (some .boolean) 7 (Option.map oI) (K152 g) 152 [(0, .ref 75)] [] g) : ∀ (h : AH), Sim RX12 cX12_readsCondition 1 (some .boolean) 7 (Option.map oI) (fX12_readsCondition_l92b rec K152 h) 92 [(0, .ref 75)] [] h := by
  intro h
  unfold fX12_readsCondition_l92b
  refine sim_aload_n 0 rfl dX12_readsCondition_92 ?_
  refine sim_bind (fun b28 e29 => ?_)
  refine sim_cV (As := []) (st := []) (r := (some (.int b28))) (h1 := h) (okX12_here h b28 e29) (fun _ => rfl) mlX12_165 mtX12_here rfl rfl rfl rfl (Nat.le_of_ble_eq_true rfl) rfl (Nat.le_of_ble_eq_true rfl) dX12_readsCondition_93 ?_
  refine sim_bipush (v := 41) (by decide) dX12_readsCondition_96 ?_
  refine sim_icmp_ne (tgt := 152) dX12_readsCondition_98 (by decide) (fun c30 => ?_) (fun c30 => ?_)
  · exact hK152 h
  · refine sim_aload_n 0 rfl dX12_readsCondition_101 ?_
    refine sim_iconst (v := 1) (by decide) dX12_readsCondition_102 ?_
    refine sim_bind (fun b31 e32 => ?_)
    refine sim_cV (As := [.int (1 : Int32)]) (st := []) (r := none) (h1 := b31) (okX12_lands (1 : Int32) h b31 e32) (fun _ => rfl) mlX12_286 mtX12_lands rfl rfl rfl rfl (Nat.le_of_ble_eq_true rfl) rfl (Nat.le_of_ble_eq_true rfl) dX12_readsCondition_103 ?_
    refine sim_aload_n 0 rfl dX12_readsCondition_106 ?_
    refine sim_aload_n 0 rfl dX12_readsCondition_107 ?_
    refine sim_getI flX12_245 rfl rfl dX12_readsCondition_108 ?_
    refine sim_iconst (v := 1) (by decide) dX12_readsCondition_111 ?_
    refine sim_isub dX12_readsCondition_112 ?_
    refine sim_putI fpX12_245 rfl rfl rfl rfl dX12_readsCondition_113 ?_
    refine sim_nmH (fun g33 => ?_)
    refine sim_aload_n 0 rfl dX12_readsCondition_116 ?_
    refine sim_aload_n 0 rfl dX12_readsCondition_117 ?_
    refine sim_getI flX12_242 rfl rfl dX12_readsCondition_118 ?_
    refine sim_iconst (v := 1) (by decide) dX12_readsCondition_121 ?_
    refine sim_isub dX12_readsCondition_122 ?_
    refine sim_putI fpX12_242 rfl rfl rfl rfl dX12_readsCondition_123 ?_
    refine sim_nmH (fun g34 => ?_)
    refine sim_aload_n 0 rfl dX12_readsCondition_126 ?_
    refine sim_aload_n 0 rfl dX12_readsCondition_127 ?_
    refine sim_getI flX12_155 rfl rfl dX12_readsCondition_128 ?_
    refine sim_iconst (v := 1) (by decide) dX12_readsCondition_131 ?_
    refine sim_iadd dX12_readsCondition_132 ?_
    refine sim_putI fpX12_155 rfl rfl rfl rfl dX12_readsCondition_133 ?_
    refine sim_nmH (fun g35 => ?_)
    refine sim_aload_n 0 rfl dX12_readsCondition_136 ?_
    refine sim_getI flX12_245 rfl rfl dX12_readsCondition_137 ?_
    refine sim_if_ne (tgt := 145) dX12_readsCondition_140 (by decide) (fun c36 => ?_) (fun c36 => ?_)
    · refine sim_aload_n 0 rfl dX12_readsCondition_145 ?_
      refine sim_bind (fun b37 e38 => ?_)
      refine sim_cV (As := []) (st := []) (r := none) (h1 := b37) (okX12_endsPiece g35 b37 e38) (fun _ => rfl) mlX12_280 mtX12_endsPiece rfl rfl rfl rfl (Nat.le_of_ble_eq_true rfl) rfl (Nat.le_of_ble_eq_true rfl) dX12_readsCondition_146 ?_
      refine sim_goto (tgt := 92) dX12_readsCondition_149 (by decide) ?_
      exact hR b37
    · refine sim_iconst (v := 1) (by decide) dX12_readsCondition_143 ?_
      exact sim_zret rfl rfl rfl dX12_readsCondition_144
theorem sX12_readsCondition_l92 {K152 : AH → Option (Int32 × AH)} (hK152 : ∀ (g : AH), Sim RX12 cX12_readsCondition 1 (some .boolean) 7 (Option.map oI) (K152 g) 152 [(0, .ref 75)] [] g) : ∀ (n : Nat) (h : AH), Sim RX12 cX12_readsCondition 1 (some .boolean) 7 (Option.map oI) (fX12_readsCondition_l92 K152 n h) 92 [(0, .ref 75)] [] h := by
  intro n
  induction n with
  | zero => intro h; exact sim_none
  | succ n ih => intro h; exact sX12_readsCondition_l92b ih hK152 h
def fX12_readsCondition_l40b (rec : AH → Option (Int32 × AH)) (K170 : AH → Option (Int32 × AH)) (h : AH) : Option (Int32 × AH) :=
  (fX12_here h).bind (fun b9 =>
  letT ((fX12_here h).bind (fun b12 =>
    if b12 = (33 : Int32) then
      (fX12_opens (10 : Int32) h).bind (fun b18 =>
      if b18.1 = 0 then
        some ((0 : Int32), b18.2)
      else
        rec b18.2)
    else
      (fX12_opens (13 : Int32) h).bind (fun b15 =>
      if b15.1 = 0 then
        some ((0 : Int32), b15.2)
      else
        rec b15.2))) (fun J11 =>
  if b9 = (33 : Int32) then
    J11
  else
    (fX12_here h).bind (fun b22 =>
    if b22 = (40 : Int32) then
      J11
    else
      (fX12_readsCompared h).bind (fun b25 =>
      if b25.1 = 0 then
        some ((0 : Int32), b25.2)
      else
        fX12_readsCondition_l92 (fun (g39 : AH) =>
          (fX12_here g39).bind (fun b40 =>
          letT ((fX12_here g39).bind (fun b43 =>
            letT (fun (w45 : Int32) =>
              (fX12_lands w45 g39).bind (fun b47 =>
              (fX12_here b47).bind (fun b49 =>
              if b49 = (38 : Int32) then
                (fX12_jumps (11 : Int32) b47).bind (fun b54 =>
                rec b54)
              else
                (fX12_jumps (12 : Int32) b47).bind (fun b52 =>
                rec b52)))) (fun J46 =>
            if b43 = (124 : Int32) then
              J46 (1 : Int32)
            else
              J46 (0 : Int32)))) (fun J42 =>
          if b40 = (38 : Int32) then
            J42
          else
            (fX12_here g39).bind (fun b58 =>
            if b58 = (124 : Int32) then
              J42
            else
              K170 g39)))) fuel0 b25.2))))
def fX12_readsCondition_l40 (K170 : AH → Option (Int32 × AH)) : Nat → AH → Option (Int32 × AH)
  | 0, _ => none
  | n + 1, h => fX12_readsCondition_l40b (fX12_readsCondition_l40 K170 n) K170 h
theorem sX12_readsCondition_l40b {rec : AH → Option (Int32 × AH)} {K170 : AH → Option (Int32 × AH)} (hR : ∀ (h : AH), Sim RX12 cX12_readsCondition 1 (some .boolean) 7 (Option.map oI) (rec h) 40 [(0, .ref 75)] [] h) (hK170 : ∀ (g : AH), Sim RX12 cX12_readsCondition 1 (some .boolean) 7 (Option.map oI) (K170 g) 170 [(0, .ref 75)] [] g) : ∀ (h : AH), Sim RX12 cX12_readsCondition 1 (some .boolean) 7 (Option.map oI) (fX12_readsCondition_l40b rec K170 h) 40 [(0, .ref 75)] [] h := by
  intro h
  unfold fX12_readsCondition_l40b
  refine sim_aload_n 0 rfl dX12_readsCondition_40 ?_
  refine sim_bind (fun b9 e10 => ?_)
  refine sim_cV (As := []) (st := []) (r := (some (.int b9))) (h1 := h) (okX12_here h b9 e10) (fun _ => rfl) mlX12_165 mtX12_here rfl rfl rfl rfl (Nat.le_of_ble_eq_true rfl) rfl (Nat.le_of_ble_eq_true rfl) dX12_readsCondition_41 ?_
  refine sim_bipush (v := 33) (by decide) dX12_readsCondition_44 ?_
  refine sim_letJ (fun J11 => Sim RX12 cX12_readsCondition 1 (some .boolean) 7 (Option.map oI) (J11) 58 [(0, .ref 75)] [] h) (?_) (fun J11 hJ11 => ?_)
  · refine sim_aload_n 0 rfl dX12_readsCondition_58 ?_
    refine sim_aload_n 0 rfl dX12_readsCondition_59 ?_
    refine sim_bind (fun b12 e13 => ?_)
    refine sim_cV (As := []) (st := [.ref 75]) (r := (some (.int b12))) (h1 := h) (okX12_here h b12 e13) (fun _ => rfl) mlX12_165 mtX12_here rfl rfl rfl rfl (Nat.le_of_ble_eq_true rfl) rfl (Nat.le_of_ble_eq_true rfl) dX12_readsCondition_60 ?_
    refine sim_bipush (v := 33) (by decide) dX12_readsCondition_63 ?_
    refine sim_icmp_ne (tgt := 73) dX12_readsCondition_65 (by decide) (fun c14 => ?_) (fun c14 => ?_)
    · refine sim_bipush (v := 13) (by decide) dX12_readsCondition_73 ?_
      refine sim_bind (fun b15 e16 => ?_)
      refine sim_cV (As := [.int (13 : Int32)]) (st := []) (r := (some (.int b15.1))) (h1 := b15.2) (okX12_opens (13 : Int32) h b15 e16) (fun _ => rfl) mlX12_255 mtX12_opens rfl rfl rfl rfl (Nat.le_of_ble_eq_true rfl) rfl (Nat.le_of_ble_eq_true rfl) dX12_readsCondition_75 ?_
      refine sim_if_ne (tgt := 40) dX12_readsCondition_78 (by decide) (fun c17 => ?_) (fun c17 => ?_)
      · exact hR b15.2
      · refine sim_iconst (v := 0) (by decide) dX12_readsCondition_81 ?_
        exact sim_zret rfl rfl rfl dX12_readsCondition_82
    · refine sim_bipush (v := 10) (by decide) dX12_readsCondition_68 ?_
      refine sim_goto (tgt := 75) dX12_readsCondition_70 (by decide) ?_
      refine sim_bind (fun b18 e19 => ?_)
      refine sim_cV (As := [.int (10 : Int32)]) (st := []) (r := (some (.int b18.1))) (h1 := b18.2) (okX12_opens (10 : Int32) h b18 e19) (fun _ => rfl) mlX12_255 mtX12_opens rfl rfl rfl rfl (Nat.le_of_ble_eq_true rfl) rfl (Nat.le_of_ble_eq_true rfl) dX12_readsCondition_75 ?_
      refine sim_if_ne (tgt := 40) dX12_readsCondition_78 (by decide) (fun c20 => ?_) (fun c20 => ?_)
      · exact hR b18.2
      · refine sim_iconst (v := 0) (by decide) dX12_readsCondition_81 ?_
        exact sim_zret rfl rfl rfl dX12_readsCondition_82
  refine sim_icmp_eq (tgt := 58) dX12_readsCondition_46 (by decide) (fun c21 => ?_) (fun c21 => ?_)
  · exact hJ11
  · refine sim_aload_n 0 rfl dX12_readsCondition_49 ?_
    refine sim_bind (fun b22 e23 => ?_)
    refine sim_cV (As := []) (st := []) (r := (some (.int b22))) (h1 := h) (okX12_here h b22 e23) (fun _ => rfl) mlX12_165 mtX12_here rfl rfl rfl rfl (Nat.le_of_ble_eq_true rfl) rfl (Nat.le_of_ble_eq_true rfl) dX12_readsCondition_50 ?_
    refine sim_bipush (v := 40) (by decide) dX12_readsCondition_53 ?_
    refine sim_icmp_ne (tgt := 83) dX12_readsCondition_55 (by decide) (fun c24 => ?_) (fun c24 => ?_)
    · refine sim_aload_n 0 rfl dX12_readsCondition_83 ?_
      refine sim_bind (fun b25 e26 => ?_)
      refine sim_cV (As := []) (st := []) (r := (some (.int b25.1))) (h1 := b25.2) (okX12_readsCompared h b25 e26) (fun _ => rfl) mlX12_283 mtX12_readsCompared rfl rfl rfl rfl (Nat.le_of_ble_eq_true rfl) rfl (Nat.le_of_ble_eq_true rfl) dX12_readsCondition_84 ?_
      refine sim_if_ne (tgt := 92) dX12_readsCondition_87 (by decide) (fun c27 => ?_) (fun c27 => ?_)
      · refine sX12_readsCondition_l92 (fun g39 => ?_) _ b25.2
        · refine sim_aload_n 0 rfl dX12_readsCondition_152 ?_
          refine sim_bind (fun b40 e41 => ?_)
          refine sim_cV (As := []) (st := []) (r := (some (.int b40))) (h1 := g39) (okX12_here g39 b40 e41) (fun _ => rfl) mlX12_165 mtX12_here rfl rfl rfl rfl (Nat.le_of_ble_eq_true rfl) rfl (Nat.le_of_ble_eq_true rfl) dX12_readsCondition_153 ?_
          refine sim_bipush (v := 38) (by decide) dX12_readsCondition_156 ?_
          refine sim_letJ (fun J42 => Sim RX12 cX12_readsCondition 1 (some .boolean) 7 (Option.map oI) (J42) 180 [(0, .ref 75)] [] g39) (?_) (fun J42 hJ42 => ?_)
          · refine sim_aload_n 0 rfl dX12_readsCondition_180 ?_
            refine sim_aload_n 0 rfl dX12_readsCondition_181 ?_
            refine sim_bind (fun b43 e44 => ?_)
            refine sim_cV (As := []) (st := [.ref 75]) (r := (some (.int b43))) (h1 := g39) (okX12_here g39 b43 e44) (fun _ => rfl) mlX12_165 mtX12_here rfl rfl rfl rfl (Nat.le_of_ble_eq_true rfl) rfl (Nat.le_of_ble_eq_true rfl) dX12_readsCondition_182 ?_
            refine sim_bipush (v := 124) (by decide) dX12_readsCondition_185 ?_
            refine sim_letJ (fun J46 => ∀ (w45 : Int32), Sim RX12 cX12_readsCondition 1 (some .boolean) 7 (Option.map oI) (J46 w45) 195 [(0, .ref 75)] [.int w45, .ref 75] g39) (fun w45 => ?_) (fun J46 hJ46 => ?_)
            · refine sim_bind (fun b47 e48 => ?_)
              refine sim_cV (As := [.int w45]) (st := []) (r := none) (h1 := b47) (okX12_lands w45 g39 b47 e48) (fun _ => rfl) mlX12_286 mtX12_lands rfl rfl rfl rfl (Nat.le_of_ble_eq_true rfl) rfl (Nat.le_of_ble_eq_true rfl) dX12_readsCondition_195 ?_
              refine sim_aload_n 0 rfl dX12_readsCondition_198 ?_
              refine sim_aload_n 0 rfl dX12_readsCondition_199 ?_
              refine sim_bind (fun b49 e50 => ?_)
              refine sim_cV (As := []) (st := [.ref 75]) (r := (some (.int b49))) (h1 := b47) (okX12_here b47 b49 e50) (fun _ => rfl) mlX12_165 mtX12_here rfl rfl rfl rfl (Nat.le_of_ble_eq_true rfl) rfl (Nat.le_of_ble_eq_true rfl) dX12_readsCondition_200 ?_
              refine sim_bipush (v := 38) (by decide) dX12_readsCondition_203 ?_
              refine sim_icmp_ne (tgt := 213) dX12_readsCondition_205 (by decide) (fun c51 => ?_) (fun c51 => ?_)
              · refine sim_bipush (v := 12) (by decide) dX12_readsCondition_213 ?_
                refine sim_bind (fun b52 e53 => ?_)
                refine sim_cV (As := [.int (12 : Int32)]) (st := []) (r := none) (h1 := b52) (okX12_jumps (12 : Int32) b47 b52 e53) (fun _ => rfl) mlX12_289 mtX12_jumps rfl rfl rfl rfl (Nat.le_of_ble_eq_true rfl) rfl (Nat.le_of_ble_eq_true rfl) dX12_readsCondition_215 ?_
                refine sim_goto (tgt := 40) dX12_readsCondition_218 (by decide) ?_
                exact hR b52
              · refine sim_bipush (v := 11) (by decide) dX12_readsCondition_208 ?_
                refine sim_goto (tgt := 215) dX12_readsCondition_210 (by decide) ?_
                refine sim_bind (fun b54 e55 => ?_)
                refine sim_cV (As := [.int (11 : Int32)]) (st := []) (r := none) (h1 := b54) (okX12_jumps (11 : Int32) b47 b54 e55) (fun _ => rfl) mlX12_289 mtX12_jumps rfl rfl rfl rfl (Nat.le_of_ble_eq_true rfl) rfl (Nat.le_of_ble_eq_true rfl) dX12_readsCondition_215 ?_
                refine sim_goto (tgt := 40) dX12_readsCondition_218 (by decide) ?_
                exact hR b54
            refine sim_icmp_ne (tgt := 194) dX12_readsCondition_187 (by decide) (fun c56 => ?_) (fun c56 => ?_)
            · refine sim_iconst (v := 0) (by decide) dX12_readsCondition_194 ?_
              exact hJ46 (0 : Int32)
            · refine sim_iconst (v := 1) (by decide) dX12_readsCondition_190 ?_
              refine sim_goto (tgt := 195) dX12_readsCondition_191 (by decide) ?_
              exact hJ46 (1 : Int32)
          refine sim_icmp_eq (tgt := 180) dX12_readsCondition_158 (by decide) (fun c57 => ?_) (fun c57 => ?_)
          · exact hJ42
          · refine sim_aload_n 0 rfl dX12_readsCondition_161 ?_
            refine sim_bind (fun b58 e59 => ?_)
            refine sim_cV (As := []) (st := []) (r := (some (.int b58))) (h1 := g39) (okX12_here g39 b58 e59) (fun _ => rfl) mlX12_165 mtX12_here rfl rfl rfl rfl (Nat.le_of_ble_eq_true rfl) rfl (Nat.le_of_ble_eq_true rfl) dX12_readsCondition_162 ?_
            refine sim_bipush (v := 124) (by decide) dX12_readsCondition_165 ?_
            refine sim_icmp_eq (tgt := 180) dX12_readsCondition_167 (by decide) (fun c60 => ?_) (fun c60 => ?_)
            · exact hJ42
            · exact hK170 g39
      · refine sim_iconst (v := 0) (by decide) dX12_readsCondition_90 ?_
        exact sim_zret rfl rfl rfl dX12_readsCondition_91
    · exact hJ11
theorem sX12_readsCondition_l40 {K170 : AH → Option (Int32 × AH)} (hK170 : ∀ (g : AH), Sim RX12 cX12_readsCondition 1 (some .boolean) 7 (Option.map oI) (K170 g) 170 [(0, .ref 75)] [] g) : ∀ (n : Nat) (h : AH), Sim RX12 cX12_readsCondition 1 (some .boolean) 7 (Option.map oI) (fX12_readsCondition_l40 K170 n h) 40 [(0, .ref 75)] [] h := by
  intro n
  induction n with
  | zero => intro h; exact sim_none
  | succ n ih => intro h; exact sX12_readsCondition_l40b ih hK170 h
def fX12_readsCondition (h : AH) : Option (Int32 × AH) :=
  (fX12_here h).bind (fun b1 =>
  if b1 = (40 : Int32) then
    letT (sI h 75 24 (0 : Int32)) (fun g4 =>
    letT (sI g4 75 26 (0 : Int32)) (fun g5 =>
    (fX12_opens (13 : Int32) g5).bind (fun b6 =>
    if b6.1 = 0 then
      some ((0 : Int32), b6.2)
    else
      fX12_readsCondition_l40 (fun (g61 : AH) =>
        letT (fX12_wrongAt (1 : Int32) (g61.1 75 11) g61) (fun b62 =>
        if b62.1 = 0 ∨ b62.1 = 1 then some (b62.1, b62.2) else none)) fuel0 b6.2)))
  else
    letT (fX12_wrongAt (1 : Int32) (h.1 75 11) h) (fun b64 =>
    if b64.1 = 0 ∨ b64.1 = 1 then some (b64.1, b64.2) else none))
theorem sX12_readsCondition (h : AH) : Sim RX12 cX12_readsCondition 1 (some .boolean) 7 (Option.map oI) (fX12_readsCondition h) 0 [(0, .ref 75)] [] h := by
  unfold fX12_readsCondition
  refine sim_aload_n 0 rfl dX12_readsCondition_0 ?_
  refine sim_bind (fun b1 e2 => ?_)
  refine sim_cV (As := []) (st := []) (r := (some (.int b1))) (h1 := h) (okX12_here h b1 e2) (fun _ => rfl) mlX12_165 mtX12_here rfl rfl rfl rfl (Nat.le_of_ble_eq_true rfl) rfl (Nat.le_of_ble_eq_true rfl) dX12_readsCondition_1 ?_
  refine sim_bipush (v := 40) (by decide) dX12_readsCondition_4 ?_
  refine sim_icmp_eq (tgt := 19) dX12_readsCondition_6 (by decide) (fun c3 => ?_) (fun c3 => ?_)
  · refine sim_aload_n 0 rfl dX12_readsCondition_19 ?_
    refine sim_iconst (v := 0) (by decide) dX12_readsCondition_20 ?_
    refine sim_putI fpX12_242 rfl rfl rfl rfl dX12_readsCondition_21 ?_
    refine sim_nmH (fun g4 => ?_)
    refine sim_aload_n 0 rfl dX12_readsCondition_24 ?_
    refine sim_iconst (v := 0) (by decide) dX12_readsCondition_25 ?_
    refine sim_putI fpX12_245 rfl rfl rfl rfl dX12_readsCondition_26 ?_
    refine sim_nmH (fun g5 => ?_)
    refine sim_aload_n 0 rfl dX12_readsCondition_29 ?_
    refine sim_bipush (v := 13) (by decide) dX12_readsCondition_30 ?_
    refine sim_bind (fun b6 e7 => ?_)
    refine sim_cV (As := [.int (13 : Int32)]) (st := []) (r := (some (.int b6.1))) (h1 := b6.2) (okX12_opens (13 : Int32) g5 b6 e7) (fun _ => rfl) mlX12_255 mtX12_opens rfl rfl rfl rfl (Nat.le_of_ble_eq_true rfl) rfl (Nat.le_of_ble_eq_true rfl) dX12_readsCondition_32 ?_
    refine sim_if_ne (tgt := 40) dX12_readsCondition_35 (by decide) (fun c8 => ?_) (fun c8 => ?_)
    · refine sX12_readsCondition_l40 (fun g61 => ?_) _ b6.2
      · refine sim_aload_n 0 rfl dX12_readsCondition_170 ?_
        refine sim_iconst (v := 1) (by decide) dX12_readsCondition_171 ?_
        refine sim_aload_n 0 rfl dX12_readsCondition_172 ?_
        refine sim_getI flX12_155 rfl rfl dX12_readsCondition_173 ?_
        refine sim_cV (As := [.int (1 : Int32), .int (g61.1 75 11)]) (st := []) (r := (some (.int ((fX12_wrongAt (1 : Int32) (g61.1 75 11) g61).1)))) (h1 := (fX12_wrongAt (1 : Int32) (g61.1 75 11) g61).2) (okX12_wrongAt (1 : Int32) (g61.1 75 11) g61) (fun _ => rfl) mlX12_169 mtX12_wrongAt rfl rfl rfl rfl (Nat.le_of_ble_eq_true rfl) rfl (Nat.le_of_ble_eq_true rfl) dX12_readsCondition_176 ?_
        refine sim_nmP (fun b62 => ?_)
        refine sim_guard (fun c63 => ?_)
        exact sim_zret rfl (nar_b c63) rfl dX12_readsCondition_179
    · refine sim_iconst (v := 0) (by decide) dX12_readsCondition_38 ?_
      exact sim_zret rfl rfl rfl dX12_readsCondition_39
  · refine sim_aload_n 0 rfl dX12_readsCondition_9 ?_
    refine sim_iconst (v := 1) (by decide) dX12_readsCondition_10 ?_
    refine sim_aload_n 0 rfl dX12_readsCondition_11 ?_
    refine sim_getI flX12_155 rfl rfl dX12_readsCondition_12 ?_
    refine sim_cV (As := [.int (1 : Int32), .int (h.1 75 11)]) (st := []) (r := (some (.int ((fX12_wrongAt (1 : Int32) (h.1 75 11) h).1)))) (h1 := (fX12_wrongAt (1 : Int32) (h.1 75 11) h).2) (okX12_wrongAt (1 : Int32) (h.1 75 11) h) (fun _ => rfl) mlX12_169 mtX12_wrongAt rfl rfl rfl rfl (Nat.le_of_ble_eq_true rfl) rfl (Nat.le_of_ble_eq_true rfl) dX12_readsCondition_15 ?_
    refine sim_nmP (fun b64 => ?_)
    refine sim_guard (fun c65 => ?_)
    exact sim_zret rfl (nar_b c65) rfl dX12_readsCondition_18
theorem okX12_readsCondition (h : AH) (b : Int32 × AH) (e : fX12_readsCondition h = some b) : Ok yX12_readsCondition cX12_readsCondition 1 (some .boolean) 7 [.ref 75] h (some (.int b.1), b.2) := ok_of (sX12_readsCondition h) (by rw [e]; rfl) (by decide +kernel) (Nat.le_of_ble_eq_true rfl)
end
