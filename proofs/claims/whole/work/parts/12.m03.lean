noncomputable section
def fX12_readsClause (h : AH) : Option (Int32 × AH) :=
  (fX12_here h).bind (fun b1 =>
  letT (if (h.1 75 27) = (14 : Int32) then
      letT (fX12_wrongAt (4 : Int32) (h.1 75 11) h) (fun b26 =>
      if b26.1 = 0 ∨ b26.1 = 1 then some (b26.1, b26.2) else none)
    else
      if (h.1 75 27) < 0 ∨ 14 ≤ (h.1 75 27).toNatClampNeg then none else
      letT (sI h 93 (h.1 75 27).toNatClampNeg b1) (fun g6 =>
      letT (sI g6 75 11 ((g6.1 75 11) + (1 : Int32))) (fun g7 =>
      if (g7.1 75 27) < 0 ∨ 14 ≤ (g7.1 75 27).toNatClampNeg then none else
      letT (sI g7 94 (g7.1 75 27).toNatClampNeg (g7.1 75 25)) (fun g9 =>
      letT (sI g9 75 24 (0 : Int32)) (fun g10 =>
      letT (sI g10 75 26 (0 : Int32)) (fun g11 =>
      letT (fun (g12 : AH) =>
        if (g12.1 75 27) < 0 ∨ 14 ≤ (g12.1 75 27).toNatClampNeg then none else
        letT (sI g12 95 (g12.1 75 27).toNatClampNeg (g12.1 75 25)) (fun g15 =>
        (fX12_readsCondition g15).bind (fun b16 =>
        if b16.1 = 0 then
          some ((0 : Int32), b16.2)
        else
          if (b16.2.1 75 27) < 0 ∨ 14 ≤ (b16.2.1 75 27).toNatClampNeg then none else
          letT (sI b16.2 96 (b16.2.1 75 27).toNatClampNeg (b16.2.1 75 25)) (fun g20 =>
          letT (sI g20 75 27 ((g20.1 75 27) + (1 : Int32))) (fun g21 =>
          some ((1 : Int32), g21)))))) (fun J13 =>
      if b1 = (114 : Int32) then
        J13 g11
      else
        (fX12_readsSum g11).bind (fun b23 =>
        if b23.1 = 0 then
          some ((0 : Int32), b23.2)
        else
          J13 b23.2)))))))) (fun J3 =>
  if b1 = (114 : Int32) then
    J3
  else
    if b1 = (116 : Int32) then
      J3
    else
      if b1 = (119 : Int32) then
        J3
      else
        if b1 = (99 : Int32) then
          J3
        else
          letT (fX12_wrongAt (1 : Int32) (h.1 75 11) h) (fun b32 =>
          if b32.1 = 0 ∨ b32.1 = 1 then some (b32.1, b32.2) else none)))
theorem sX12_readsClause (h : AH) : Sim RX12 cX12_readsClause 2 (some .boolean) 8 (Option.map oI) (fX12_readsClause h) 0 [(0, .ref 75)] [] h := by
  unfold fX12_readsClause
  refine sim_aload_n 0 rfl dX12_readsClause_0 ?_
  refine sim_bind (fun b1 e2 => ?_)
  refine sim_cV (As := []) (st := []) (r := (some (.int b1))) (h1 := h) (okX12_here h b1 e2) (fun _ => rfl) mlX12_165 mtX12_here rfl rfl rfl rfl (Nat.le_of_ble_eq_true rfl) rfl (Nat.le_of_ble_eq_true rfl) dX12_readsClause_1 ?_
  refine sim_istore_n (L' := [(1, .int b1), (0, .ref 75)]) rfl (by decide) dX12_readsClause_4 ?_
  refine sim_iload_n 0 rfl dX12_readsClause_5 ?_
  refine sim_bipush (v := 114) (by decide) dX12_readsClause_6 ?_
  refine sim_letJ (fun J3 => Sim RX12 cX12_readsClause 2 (some .boolean) 8 (Option.map oI) (J3) 39 [(0, .ref 75), (1, .int b1)] [] h) (?_) (fun J3 hJ3 => ?_)
  · refine sim_aload_n 0 rfl dX12_readsClause_39 ?_
    refine sim_getI flX12_292 rfl rfl dX12_readsClause_40 ?_
    refine sim_bipush (v := 14) (by decide) dX12_readsClause_43 ?_
    refine sim_icmp_ne (tgt := 58) dX12_readsClause_45 (by decide) (fun c4 => ?_) (fun c4 => ?_)
    · refine sim_aload_n 0 rfl dX12_readsClause_58 ?_
      refine sim_getR flX12_62 rfl rfl dX12_readsClause_59 ?_
      refine sim_aload_n 0 rfl dX12_readsClause_62 ?_
      refine sim_getI flX12_292 rfl rfl dX12_readsClause_63 ?_
      refine sim_iload_n 1 rfl dX12_readsClause_66 ?_
      refine sim_nguard (fun c5 => ?_)
      refine sim_iast rfl c5 dX12_readsClause_67 ?_
      refine sim_nmH (fun g6 => ?_)
      refine sim_aload_n 0 rfl dX12_readsClause_68 ?_
      refine sim_aload_n 0 rfl dX12_readsClause_69 ?_
      refine sim_getI flX12_155 rfl rfl dX12_readsClause_70 ?_
      refine sim_iconst (v := 1) (by decide) dX12_readsClause_73 ?_
      refine sim_iadd dX12_readsClause_74 ?_
      refine sim_putI fpX12_155 rfl rfl rfl rfl dX12_readsClause_75 ?_
      refine sim_nmH (fun g7 => ?_)
      refine sim_aload_n 0 rfl dX12_readsClause_78 ?_
      refine sim_getR flX12_65 rfl rfl dX12_readsClause_79 ?_
      refine sim_aload_n 0 rfl dX12_readsClause_82 ?_
      refine sim_getI flX12_292 rfl rfl dX12_readsClause_83 ?_
      refine sim_aload_n 0 rfl dX12_readsClause_86 ?_
      refine sim_getI flX12_238 rfl rfl dX12_readsClause_87 ?_
      refine sim_nguard (fun c8 => ?_)
      refine sim_iast rfl c8 dX12_readsClause_90 ?_
      refine sim_nmH (fun g9 => ?_)
      refine sim_aload_n 0 rfl dX12_readsClause_91 ?_
      refine sim_iconst (v := 0) (by decide) dX12_readsClause_92 ?_
      refine sim_putI fpX12_242 rfl rfl rfl rfl dX12_readsClause_93 ?_
      refine sim_nmH (fun g10 => ?_)
      refine sim_aload_n 0 rfl dX12_readsClause_96 ?_
      refine sim_iconst (v := 0) (by decide) dX12_readsClause_97 ?_
      refine sim_putI fpX12_245 rfl rfl rfl rfl dX12_readsClause_98 ?_
      refine sim_nmH (fun g11 => ?_)
      refine sim_iload_n 1 rfl dX12_readsClause_101 ?_
      refine sim_bipush (v := 114) (by decide) dX12_readsClause_102 ?_
      refine sim_letJ (fun J13 => ∀ (g12 : AH), Sim RX12 cX12_readsClause 2 (some .boolean) 8 (Option.map oI) (J13 g12) 116 [(0, .ref 75)] [] g12) (fun g12 => ?_) (fun J13 hJ13 => ?_)
      · refine sim_aload_n 0 rfl dX12_readsClause_116 ?_
        refine sim_getR flX12_68 rfl rfl dX12_readsClause_117 ?_
        refine sim_aload_n 0 rfl dX12_readsClause_120 ?_
        refine sim_getI flX12_292 rfl rfl dX12_readsClause_121 ?_
        refine sim_aload_n 0 rfl dX12_readsClause_124 ?_
        refine sim_getI flX12_238 rfl rfl dX12_readsClause_125 ?_
        refine sim_nguard (fun c14 => ?_)
        refine sim_iast rfl c14 dX12_readsClause_128 ?_
        refine sim_nmH (fun g15 => ?_)
        refine sim_aload_n 0 rfl dX12_readsClause_129 ?_
        refine sim_bind (fun b16 e17 => ?_)
        refine sim_cV (As := []) (st := []) (r := (some (.int b16.1))) (h1 := b16.2) (okX12_readsCondition g15 b16 e17) (fun _ => rfl) mlX12_295 mtX12_readsCondition rfl rfl rfl rfl (Nat.le_of_ble_eq_true rfl) rfl (Nat.le_of_ble_eq_true rfl) dX12_readsClause_130 ?_
        refine sim_if_ne (tgt := 138) dX12_readsClause_133 (by decide) (fun c18 => ?_) (fun c18 => ?_)
        · refine sim_aload_n 0 rfl dX12_readsClause_138 ?_
          refine sim_getR flX12_71 rfl rfl dX12_readsClause_139 ?_
          refine sim_aload_n 0 rfl dX12_readsClause_142 ?_
          refine sim_getI flX12_292 rfl rfl dX12_readsClause_143 ?_
          refine sim_aload_n 0 rfl dX12_readsClause_146 ?_
          refine sim_getI flX12_238 rfl rfl dX12_readsClause_147 ?_
          refine sim_nguard (fun c19 => ?_)
          refine sim_iast rfl c19 dX12_readsClause_150 ?_
          refine sim_nmH (fun g20 => ?_)
          refine sim_aload_n 0 rfl dX12_readsClause_151 ?_
          refine sim_aload_n 0 rfl dX12_readsClause_152 ?_
          refine sim_getI flX12_292 rfl rfl dX12_readsClause_153 ?_
          refine sim_iconst (v := 1) (by decide) dX12_readsClause_156 ?_
          refine sim_iadd dX12_readsClause_157 ?_
          refine sim_putI fpX12_292 rfl rfl rfl rfl dX12_readsClause_158 ?_
          refine sim_nmH (fun g21 => ?_)
          refine sim_iconst (v := 1) (by decide) dX12_readsClause_161 ?_
          exact sim_zret rfl rfl rfl dX12_readsClause_162
        · refine sim_iconst (v := 0) (by decide) dX12_readsClause_136 ?_
          exact sim_zret rfl rfl rfl dX12_readsClause_137
      refine sim_icmp_eq (tgt := 116) dX12_readsClause_104 (by decide) (fun c22 => ?_) (fun c22 => ?_)
      · refine sim_sub [0] rfl ?_
        exact hJ13 g11
      · refine sim_aload_n 0 rfl dX12_readsClause_107 ?_
        refine sim_bind (fun b23 e24 => ?_)
        refine sim_cV (As := []) (st := []) (r := (some (.int b23.1))) (h1 := b23.2) (okX12_readsSum g11 b23 e24) (fun _ => rfl) mlX12_277 mtX12_readsSum rfl rfl rfl rfl (Nat.le_of_ble_eq_true rfl) rfl (Nat.le_of_ble_eq_true rfl) dX12_readsClause_108 ?_
        refine sim_if_ne (tgt := 116) dX12_readsClause_111 (by decide) (fun c25 => ?_) (fun c25 => ?_)
        · refine sim_sub [0] rfl ?_
          exact hJ13 b23.2
        · refine sim_iconst (v := 0) (by decide) dX12_readsClause_114 ?_
          exact sim_zret rfl rfl rfl dX12_readsClause_115
    · refine sim_aload_n 0 rfl dX12_readsClause_48 ?_
      refine sim_iconst (v := 4) (by decide) dX12_readsClause_49 ?_
      refine sim_aload_n 0 rfl dX12_readsClause_50 ?_
      refine sim_getI flX12_155 rfl rfl dX12_readsClause_51 ?_
      refine sim_cV (As := [.int (4 : Int32), .int (h.1 75 11)]) (st := []) (r := (some (.int ((fX12_wrongAt (4 : Int32) (h.1 75 11) h).1)))) (h1 := (fX12_wrongAt (4 : Int32) (h.1 75 11) h).2) (okX12_wrongAt (4 : Int32) (h.1 75 11) h) (fun _ => rfl) mlX12_169 mtX12_wrongAt rfl rfl rfl rfl (Nat.le_of_ble_eq_true rfl) rfl (Nat.le_of_ble_eq_true rfl) dX12_readsClause_54 ?_
      refine sim_nmP (fun b26 => ?_)
      refine sim_guard (fun c27 => ?_)
      exact sim_zret rfl (nar_b c27) rfl dX12_readsClause_57
  refine sim_icmp_eq (tgt := 39) dX12_readsClause_8 (by decide) (fun c28 => ?_) (fun c28 => ?_)
  · refine sim_sub [1, 0] rfl ?_
    exact hJ3
  · refine sim_iload_n 0 rfl dX12_readsClause_11 ?_
    refine sim_bipush (v := 116) (by decide) dX12_readsClause_12 ?_
    refine sim_icmp_eq (tgt := 39) dX12_readsClause_14 (by decide) (fun c29 => ?_) (fun c29 => ?_)
    · refine sim_sub [1, 0] rfl ?_
      exact hJ3
    · refine sim_iload_n 0 rfl dX12_readsClause_17 ?_
      refine sim_bipush (v := 119) (by decide) dX12_readsClause_18 ?_
      refine sim_icmp_eq (tgt := 39) dX12_readsClause_20 (by decide) (fun c30 => ?_) (fun c30 => ?_)
      · refine sim_sub [1, 0] rfl ?_
        exact hJ3
      · refine sim_iload_n 0 rfl dX12_readsClause_23 ?_
        refine sim_bipush (v := 99) (by decide) dX12_readsClause_24 ?_
        refine sim_icmp_eq (tgt := 39) dX12_readsClause_26 (by decide) (fun c31 => ?_) (fun c31 => ?_)
        · refine sim_sub [1, 0] rfl ?_
          exact hJ3
        · refine sim_aload_n 1 rfl dX12_readsClause_29 ?_
          refine sim_iconst (v := 1) (by decide) dX12_readsClause_30 ?_
          refine sim_aload_n 1 rfl dX12_readsClause_31 ?_
          refine sim_getI flX12_155 rfl rfl dX12_readsClause_32 ?_
          refine sim_cV (As := [.int (1 : Int32), .int (h.1 75 11)]) (st := []) (r := (some (.int ((fX12_wrongAt (1 : Int32) (h.1 75 11) h).1)))) (h1 := (fX12_wrongAt (1 : Int32) (h.1 75 11) h).2) (okX12_wrongAt (1 : Int32) (h.1 75 11) h) (fun _ => rfl) mlX12_169 mtX12_wrongAt rfl rfl rfl rfl (Nat.le_of_ble_eq_true rfl) rfl (Nat.le_of_ble_eq_true rfl) dX12_readsClause_35 ?_
          refine sim_nmP (fun b32 => ?_)
          refine sim_guard (fun c33 => ?_)
          exact sim_zret rfl (nar_b c33) rfl dX12_readsClause_38
theorem okX12_readsClause (h : AH) (b : Int32 × AH) (e : fX12_readsClause h = some b) : Ok yX12_readsClause cX12_readsClause 2 (some .boolean) 8 [.ref 75] h (some (.int b.1), b.2) := ok_of (sX12_readsClause h) (by rw [e]; rfl) (by decide +kernel) (Nat.le_of_ble_eq_true rfl)
def fX12_law_l46b (rec : Int32 → AH → Option (Int32 × AH)) (K86 : Int32 → AH → Option (Int32 × AH)) (x2 : Int32) (h : AH) : Option (Int32 × AH) :=
  if x2 = 0 then
    K86 x2 h
  else
    if (h.1 75 11) < (h.1 75 12) then
      (fX12_takes (59 : Int32) h).bind (fun b11 =>
      if b11.1 = 0 then
        rec (0 : Int32) b11.2
      else
        (fX12_readsClause b11.2).bind (fun b14 =>
        if b14.1 = 0 then
          rec (0 : Int32) b14.2
        else
          rec (1 : Int32) b14.2))
    else
      K86 x2 h
def fX12_law_l46 (K86 : Int32 → AH → Option (Int32 × AH)) : Nat → Int32 → AH → Option (Int32 × AH)
  | 0, _, _ => none
  | n + 1, x2, h => fX12_law_l46b (fX12_law_l46 K86 n) K86 x2 h
theorem sX12_law_l46b {rec : Int32 → AH → Option (Int32 × AH)} {K86 : Int32 → AH → Option (Int32 × AH)} (hR : ∀ (x2 : Int32) (h : AH), Sim RX12 cX12_law 4 (some .int) 9 (Option.map oI) (rec x2 h) 46 [(0, .ref 75), (2, .int x2)] [] h) (hK86 : ∀ (y2 : Int32) (g : AH), Sim RX12 cX12_law 4 (some .int) 9 (Option.map oI) (K86 y2 g) 86 [(0, .ref 75), (2, .int y2)] [] g) : ∀ (x2 : Int32) (h : AH), Sim RX12 cX12_law 4 (some .int) 9 (Option.map oI) (fX12_law_l46b rec K86 x2 h) 46 [(0, .ref 75), (2, .int x2)] [] h := by
  intro x2 h
  unfold fX12_law_l46b
  refine sim_iload_n 1 rfl dX12_law_46 ?_
  refine sim_if_eq (tgt := 86) dX12_law_47 (by decide) (fun c9 => ?_) (fun c9 => ?_)
  · exact hK86 x2 h
  · refine sim_aload_n 0 rfl dX12_law_50 ?_
    refine sim_getI flX12_155 rfl rfl dX12_law_51 ?_
    refine sim_aload_n 0 rfl dX12_law_54 ?_
    refine sim_getI flX12_189 rfl rfl dX12_law_55 ?_
    refine sim_icmp_ge (tgt := 86) dX12_law_58 (by decide) (fun c10 => ?_) (fun c10 => ?_)
    · exact hK86 x2 h
    · refine sim_aload_n 0 rfl dX12_law_61 ?_
      refine sim_bipush (v := 59) (by decide) dX12_law_62 ?_
      refine sim_bind (fun b11 e12 => ?_)
      refine sim_cV (As := [.int (59 : Int32)]) (st := []) (r := (some (.int b11.1))) (h1 := b11.2) (okX12_takes (59 : Int32) h b11 e12) (fun _ => rfl) mlX12_179 mtX12_takes rfl rfl rfl rfl (Nat.le_of_ble_eq_true rfl) rfl (Nat.le_of_ble_eq_true rfl) dX12_law_64 ?_
      refine sim_if_eq (tgt := 81) dX12_law_67 (by decide) (fun c13 => ?_) (fun c13 => ?_)
      · refine sim_iconst (v := 0) (by decide) dX12_law_81 ?_
        refine sim_istore_n (L' := [(2, .int (0 : Int32)), (0, .ref 75)]) rfl (by decide) dX12_law_82 ?_
        refine sim_goto (tgt := 46) dX12_law_83 (by decide) ?_
        refine sim_sub [1, 0] rfl ?_
        exact hR (0 : Int32) b11.2
      · refine sim_aload_n 0 rfl dX12_law_70 ?_
        refine sim_bind (fun b14 e15 => ?_)
        refine sim_cV (As := []) (st := []) (r := (some (.int b14.1))) (h1 := b14.2) (okX12_readsClause b11.2 b14 e15) (fun _ => rfl) mlX12_298 mtX12_readsClause rfl rfl rfl rfl (Nat.le_of_ble_eq_true rfl) rfl (Nat.le_of_ble_eq_true rfl) dX12_law_71 ?_
        refine sim_if_eq (tgt := 81) dX12_law_74 (by decide) (fun c16 => ?_) (fun c16 => ?_)
        · refine sim_iconst (v := 0) (by decide) dX12_law_81 ?_
          refine sim_istore_n (L' := [(2, .int (0 : Int32)), (0, .ref 75)]) rfl (by decide) dX12_law_82 ?_
          refine sim_goto (tgt := 46) dX12_law_83 (by decide) ?_
          refine sim_sub [1, 0] rfl ?_
          exact hR (0 : Int32) b14.2
        · refine sim_iconst (v := 1) (by decide) dX12_law_77 ?_
          refine sim_goto (tgt := 82) dX12_law_78 (by decide) ?_
          refine sim_istore_n (L' := [(2, .int (1 : Int32)), (0, .ref 75)]) rfl (by decide) dX12_law_82 ?_
          refine sim_goto (tgt := 46) dX12_law_83 (by decide) ?_
          refine sim_sub [1, 0] rfl ?_
          exact hR (1 : Int32) b14.2
theorem sX12_law_l46 {K86 : Int32 → AH → Option (Int32 × AH)} (hK86 : ∀ (y2 : Int32) (g : AH), Sim RX12 cX12_law 4 (some .int) 9 (Option.map oI) (K86 y2 g) 86 [(0, .ref 75), (2, .int y2)] [] g) : ∀ (n : Nat) (x2 : Int32) (h : AH), Sim RX12 cX12_law 4 (some .int) 9 (Option.map oI) (fX12_law_l46 K86 n x2 h) 46 [(0, .ref 75), (2, .int x2)] [] h := by
  intro n
  induction n with
  | zero => intro x2 h; exact sim_none
  | succ n ih => intro x2 h; exact sX12_law_l46b ih hK86 x2 h
def fX12_law_l110b (rec : Int32 → AH → Option (Int32 × AH)) (K136 : AH → Option (Int32 × AH)) (x3 : Int32) (h : AH) : Option (Int32 × AH) :=
  if x3 < (h.1 75 25) then
    if x3 < 0 ∨ 220 ≤ x3.toNatClampNeg then none else
    if x3 < 0 ∨ 220 ≤ x3.toNatClampNeg then none else
    letT (sI h 97 x3.toNatClampNeg (h.1 91 x3.toNatClampNeg)) (fun g25 =>
    rec (x3 + 1) g25)
  else
    K136 h
def fX12_law_l110 (K136 : AH → Option (Int32 × AH)) : Nat → Int32 → AH → Option (Int32 × AH)
  | 0, _, _ => none
  | n + 1, x3, h => fX12_law_l110b (fX12_law_l110 K136 n) K136 x3 h
theorem sX12_law_l110b {rec : Int32 → AH → Option (Int32 × AH)} {K136 : AH → Option (Int32 × AH)} (hR : ∀ (x3 : Int32) (h : AH), Sim RX12 cX12_law 4 (some .int) 9 (Option.map oI) (rec x3 h) 110 [(0, .ref 75), (3, .int x3)] [] h) (hK136 : ∀ (g : AH), Sim RX12 cX12_law 4 (some .int) 9 (Option.map oI) (K136 g) 136 [(0, .ref 75)] [] g) : ∀ (x3 : Int32) (h : AH), Sim RX12 cX12_law 4 (some .int) 9 (Option.map oI) (fX12_law_l110b rec K136 x3 h) 110 [(0, .ref 75), (3, .int x3)] [] h := by
  intro x3 h
  unfold fX12_law_l110b
  refine sim_iload_n 1 rfl dX12_law_110 ?_
  refine sim_aload_n 0 rfl dX12_law_111 ?_
  refine sim_getI flX12_238 rfl rfl dX12_law_112 ?_
  refine sim_icmp_ge (tgt := 136) dX12_law_115 (by decide) (fun c22 => ?_) (fun c22 => ?_)
  · refine sim_sub [0] rfl ?_
    exact hK136 h
  · refine sim_aload_n 0 rfl dX12_law_118 ?_
    refine sim_getR flX12_74 rfl rfl dX12_law_119 ?_
    refine sim_iload_n 1 rfl dX12_law_122 ?_
    refine sim_aload_n 0 rfl dX12_law_123 ?_
    refine sim_getR flX12_56 rfl rfl dX12_law_124 ?_
    refine sim_iload_n 1 rfl dX12_law_127 ?_
    refine sim_nguard (fun c23 => ?_)
    refine sim_iald rfl c23 dX12_law_128 ?_
    refine sim_nguard (fun c24 => ?_)
    refine sim_iast rfl c24 dX12_law_129 ?_
    refine sim_nmH (fun g25 => ?_)
    refine sim_iinc (v := x3 + 1) (L' := [(3, .int (x3 + 1)), (0, .ref 75)]) 1 rfl rfl rfl (by decide) dX12_law_130 ?_
    refine sim_goto (tgt := 110) dX12_law_133 (by decide) ?_
    refine sim_sub [1, 0] rfl ?_
    exact hR (x3 + 1) g25
theorem sX12_law_l110 {K136 : AH → Option (Int32 × AH)} (hK136 : ∀ (g : AH), Sim RX12 cX12_law 4 (some .int) 9 (Option.map oI) (K136 g) 136 [(0, .ref 75)] [] g) : ∀ (n : Nat) (x3 : Int32) (h : AH), Sim RX12 cX12_law 4 (some .int) 9 (Option.map oI) (fX12_law_l110 K136 n x3 h) 110 [(0, .ref 75), (3, .int x3)] [] h := by
  intro n
  induction n with
  | zero => intro x3 h; exact sim_none
  | succ n ih => intro x3 h; exact sX12_law_l110b ih hK136 x3 h
def fX12_law_l138b (rec : Int32 → AH → Option (Int32 × AH)) (x3 : Int32) (h : AH) : Option (Int32 × AH) :=
  if x3 < (h.1 75 27) then
    if x3 < 0 ∨ 14 ≤ x3.toNatClampNeg then none else
    if x3 < 0 ∨ 14 ≤ x3.toNatClampNeg then none else
    letT (sI h 98 x3.toNatClampNeg (h.1 93 x3.toNatClampNeg)) (fun g30 =>
    if x3 < 0 ∨ 14 ≤ x3.toNatClampNeg then none else
    if x3 < 0 ∨ 14 ≤ x3.toNatClampNeg then none else
    letT (sI g30 99 x3.toNatClampNeg (g30.1 94 x3.toNatClampNeg)) (fun g33 =>
    if x3 < 0 ∨ 14 ≤ x3.toNatClampNeg then none else
    if x3 < 0 ∨ 14 ≤ x3.toNatClampNeg then none else
    letT (sI g33 100 x3.toNatClampNeg (g33.1 95 x3.toNatClampNeg)) (fun g36 =>
    if x3 < 0 ∨ 14 ≤ x3.toNatClampNeg then none else
    if x3 < 0 ∨ 14 ≤ x3.toNatClampNeg then none else
    letT (sI g36 101 x3.toNatClampNeg (g36.1 96 x3.toNatClampNeg)) (fun g39 =>
    rec (x3 + 1) g39))))
  else
    some (h.1 75 27, h)
def fX12_law_l138 : Nat → Int32 → AH → Option (Int32 × AH)
  | 0, _, _ => none
  | n + 1, x3, h => fX12_law_l138b (fX12_law_l138 n) x3 h
theorem sX12_law_l138b {rec : Int32 → AH → Option (Int32 × AH)} (hR : ∀ (x3 : Int32) (h : AH), Sim RX12 cX12_law 4 (some .int) 9 (Option.map oI) (rec x3 h) 138 [(0, .ref 75), (3, .int x3)] [] h) : ∀ (x3 : Int32) (h : AH), Sim RX12 cX12_law 4 (some .int) 9 (Option.map oI) (fX12_law_l138b rec x3 h) 138 [(0, .ref 75), (3, .int x3)] [] h := by
  intro x3 h
  unfold fX12_law_l138b
  refine sim_iload_n 1 rfl dX12_law_138 ?_
  refine sim_aload_n 0 rfl dX12_law_139 ?_
  refine sim_getI flX12_292 rfl rfl dX12_law_140 ?_
  refine sim_icmp_ge (tgt := 200) dX12_law_143 (by decide) (fun c27 => ?_) (fun c27 => ?_)
  · refine sim_aload_n 0 rfl dX12_law_200 ?_
    refine sim_getI flX12_292 rfl rfl dX12_law_201 ?_
    exact sim_iret rfl rfl dX12_law_204
  · refine sim_aload_n 0 rfl dX12_law_146 ?_
    refine sim_getR flX12_77 rfl rfl dX12_law_147 ?_
    refine sim_iload_n 1 rfl dX12_law_150 ?_
    refine sim_aload_n 0 rfl dX12_law_151 ?_
    refine sim_getR flX12_62 rfl rfl dX12_law_152 ?_
    refine sim_iload_n 1 rfl dX12_law_155 ?_
    refine sim_nguard (fun c28 => ?_)
    refine sim_iald rfl c28 dX12_law_156 ?_
    refine sim_nguard (fun c29 => ?_)
    refine sim_iast rfl c29 dX12_law_157 ?_
    refine sim_nmH (fun g30 => ?_)
    refine sim_aload_n 0 rfl dX12_law_158 ?_
    refine sim_getR flX12_80 rfl rfl dX12_law_159 ?_
    refine sim_iload_n 1 rfl dX12_law_162 ?_
    refine sim_aload_n 0 rfl dX12_law_163 ?_
    refine sim_getR flX12_65 rfl rfl dX12_law_164 ?_
    refine sim_iload_n 1 rfl dX12_law_167 ?_
    refine sim_nguard (fun c31 => ?_)
    refine sim_iald rfl c31 dX12_law_168 ?_
    refine sim_nguard (fun c32 => ?_)
    refine sim_iast rfl c32 dX12_law_169 ?_
    refine sim_nmH (fun g33 => ?_)
    refine sim_aload_n 0 rfl dX12_law_170 ?_
    refine sim_getR flX12_83 rfl rfl dX12_law_171 ?_
    refine sim_iload_n 1 rfl dX12_law_174 ?_
    refine sim_aload_n 0 rfl dX12_law_175 ?_
    refine sim_getR flX12_68 rfl rfl dX12_law_176 ?_
    refine sim_iload_n 1 rfl dX12_law_179 ?_
    refine sim_nguard (fun c34 => ?_)
    refine sim_iald rfl c34 dX12_law_180 ?_
    refine sim_nguard (fun c35 => ?_)
    refine sim_iast rfl c35 dX12_law_181 ?_
    refine sim_nmH (fun g36 => ?_)
    refine sim_aload_n 0 rfl dX12_law_182 ?_
    refine sim_getR flX12_86 rfl rfl dX12_law_183 ?_
    refine sim_iload_n 1 rfl dX12_law_186 ?_
    refine sim_aload_n 0 rfl dX12_law_187 ?_
    refine sim_getR flX12_71 rfl rfl dX12_law_188 ?_
    refine sim_iload_n 1 rfl dX12_law_191 ?_
    refine sim_nguard (fun c37 => ?_)
    refine sim_iald rfl c37 dX12_law_192 ?_
    refine sim_nguard (fun c38 => ?_)
    refine sim_iast rfl c38 dX12_law_193 ?_
    refine sim_nmH (fun g39 => ?_)
    refine sim_iinc (v := x3 + 1) (L' := [(3, .int (x3 + 1)), (0, .ref 75)]) 1 rfl rfl rfl (by decide) dX12_law_194 ?_
    refine sim_goto (tgt := 138) dX12_law_197 (by decide) ?_
    refine sim_sub [1, 0] rfl ?_
    exact hR (x3 + 1) g39
theorem sX12_law_l138 : ∀ (n : Nat) (x3 : Int32) (h : AH), Sim RX12 cX12_law 4 (some .int) 9 (Option.map oI) (fX12_law_l138 n x3 h) 138 [(0, .ref 75), (3, .int x3)] [] h := by
  intro n
  induction n with
  | zero => intro x3 h; exact sim_none
  | succ n ih => intro x3 h; exact sX12_law_l138b ih x3 h
def fX12_law (p1 : Int32) (h : AH) : Option (Int32 × AH) :=
  if (fX12_in p1 (1 : Int32) (200 : Int32) h) = 0 then
    some ((-1 : Int32), h)
  else
    if (h.1 75 10) < p1 then
      some ((-1 : Int32), h)
    else
      letT (sI h 75 11 (0 : Int32)) (fun g3 =>
      letT (sI g3 75 12 p1) (fun g4 =>
      letT (sI g4 75 25 (0 : Int32)) (fun g5 =>
      letT (sI g5 75 27 (0 : Int32)) (fun g6 =>
      (fX12_readsClause g6).bind (fun b7 =>
      fX12_law_l46 (fun (y17 : Int32) (g18 : AH) =>
        letT (sI g18 75 10 (0 : Int32)) (fun g19 =>
        if y17 = 0 then
          some (g19.1 75 13, g19)
        else
          letT (sI g19 75 28 (g19.1 75 27)) (fun g21 =>
          fX12_law_l110 (fun (g26 : AH) =>
            fX12_law_l138 fuel0 (0 : Int32) g26) fuel0 (0 : Int32) g21))) fuel0 b7.1 b7.2)))))
theorem sX12_law (p1 : Int32) (h : AH) : Sim RX12 cX12_law 4 (some .int) 9 (Option.map oI) (fX12_law p1 h) 0 [(0, .ref 75), (1, .int p1)] [] h := by
  unfold fX12_law
  refine sim_iload_n 1 rfl dX12_law_0 ?_
  refine sim_iconst (v := 1) (by decide) dX12_law_1 ?_
  refine sim_sipush (v := 200) (by decide) dX12_law_2 ?_
  refine sim_cS (As := [.int p1, .int (1 : Int32), .int (200 : Int32)]) (st := []) (r := (some (.int (fX12_in p1 (1 : Int32) (200 : Int32) h)))) (h1 := h) (okX12_in p1 (1 : Int32) (200 : Int32) h) (fun _ => rfl) mlX12_141 mtX12_in rfl (Nat.le_of_ble_eq_true rfl) rfl (Nat.le_of_ble_eq_true rfl) dX12_law_5 ?_
  refine sim_if_eq (tgt := 19) dX12_law_8 (by decide) (fun c1 => ?_) (fun c1 => ?_)
  · refine sim_iconst (v := -1) (by decide) dX12_law_19 ?_
    exact sim_iret rfl rfl dX12_law_20
  · refine sim_iload_n 1 rfl dX12_law_11 ?_
    refine sim_aload_n 0 rfl dX12_law_12 ?_
    refine sim_getI flX12_148 rfl rfl dX12_law_13 ?_
    refine sim_icmp_le (tgt := 21) dX12_law_16 (by decide) (fun c2 => ?_) (fun c2 => ?_)
    · refine sim_aload_n 0 rfl dX12_law_21 ?_
      refine sim_iconst (v := 0) (by decide) dX12_law_22 ?_
      refine sim_putI fpX12_155 rfl rfl rfl rfl dX12_law_23 ?_
      refine sim_nmH (fun g3 => ?_)
      refine sim_aload_n 0 rfl dX12_law_26 ?_
      refine sim_iload_n 1 rfl dX12_law_27 ?_
      refine sim_putI fpX12_189 rfl rfl rfl rfl dX12_law_28 ?_
      refine sim_nmH (fun g4 => ?_)
      refine sim_aload_n 0 rfl dX12_law_31 ?_
      refine sim_iconst (v := 0) (by decide) dX12_law_32 ?_
      refine sim_putI fpX12_238 rfl rfl rfl rfl dX12_law_33 ?_
      refine sim_nmH (fun g5 => ?_)
      refine sim_aload_n 0 rfl dX12_law_36 ?_
      refine sim_iconst (v := 0) (by decide) dX12_law_37 ?_
      refine sim_putI fpX12_292 rfl rfl rfl rfl dX12_law_38 ?_
      refine sim_nmH (fun g6 => ?_)
      refine sim_aload_n 0 rfl dX12_law_41 ?_
      refine sim_bind (fun b7 e8 => ?_)
      refine sim_cV (As := []) (st := []) (r := (some (.int b7.1))) (h1 := b7.2) (okX12_readsClause g6 b7 e8) (fun _ => rfl) mlX12_298 mtX12_readsClause rfl rfl rfl rfl (Nat.le_of_ble_eq_true rfl) rfl (Nat.le_of_ble_eq_true rfl) dX12_law_42 ?_
      refine sim_istore_n (L' := [(2, .int b7.1), (0, .ref 75), (1, .int p1)]) rfl (by decide) dX12_law_45 ?_
      refine sim_sub [1, 0] rfl ?_
      refine sX12_law_l46 (fun y17 g18 => ?_) _ b7.1 b7.2
      · refine sim_aload_n 0 rfl dX12_law_86 ?_
        refine sim_iconst (v := 0) (by decide) dX12_law_87 ?_
        refine sim_putI fpX12_148 rfl rfl rfl rfl dX12_law_88 ?_
        refine sim_nmH (fun g19 => ?_)
        refine sim_iload_n 1 rfl dX12_law_91 ?_
        refine sim_if_ne (tgt := 100) dX12_law_92 (by decide) (fun c20 => ?_) (fun c20 => ?_)
        · refine sim_aload_n 0 rfl dX12_law_100 ?_
          refine sim_aload_n 0 rfl dX12_law_101 ?_
          refine sim_getI flX12_292 rfl rfl dX12_law_102 ?_
          refine sim_putI fpX12_301 rfl rfl rfl rfl dX12_law_105 ?_
          refine sim_nmH (fun g21 => ?_)
          refine sim_iconst (v := 0) (by decide) dX12_law_108 ?_
          refine sim_istore_n (L' := [(3, .int (0 : Int32)), (0, .ref 75), (2, .int y17)]) rfl (by decide) dX12_law_109 ?_
          refine sim_sub [1, 0] rfl ?_
          refine sX12_law_l110 (fun g26 => ?_) _ (0 : Int32) g21
          · refine sim_iconst (v := 0) (by decide) dX12_law_136 ?_
            refine sim_istore_n (L' := [(3, .int (0 : Int32)), (0, .ref 75)]) rfl (by decide) dX12_law_137 ?_
            refine sim_sub [1, 0] rfl ?_
            refine sX12_law_l138 _ (0 : Int32) g26
        · refine sim_aload_n 0 rfl dX12_law_95 ?_
          refine sim_getI flX12_195 rfl rfl dX12_law_96 ?_
          exact sim_iret rfl rfl dX12_law_99
    · refine sim_iconst (v := -1) (by decide) dX12_law_19 ?_
      exact sim_iret rfl rfl dX12_law_20
theorem okX12_law (p1 : Int32) (h : AH) (b : Int32 × AH) (e : fX12_law p1 h = some b) : Ok yX12_law cX12_law 4 (some .int) 9 [.ref 75, .int p1] h (some (.int b.1), b.2) := ok_of (sX12_law p1 h) (by rw [e]; rfl) (by decide +kernel) (Nat.le_of_ble_eq_true rfl)
def fX12_isHearer (p0 : Int32) (h : AH) : Int32 :=
  if p0 < 0 then
    (0 : Int32)
  else
    if p0 < (10 : Int32) then
      (1 : Int32)
    else
      (0 : Int32)
theorem sX12_isHearer (p0 : Int32) (h : AH) : Sim RX12 cX12_isHearer 1 (some .boolean) 1 (tI h) (fX12_isHearer p0 h) 0 [(0, .int p0)] [] h := by
  unfold fX12_isHearer
  refine sim_iload_n 0 rfl dX12_isHearer_0 ?_
  refine sim_if_lt (tgt := 14) dX12_isHearer_1 (by decide) (fun c1 => ?_) (fun c1 => ?_)
  · refine sim_iconst (v := 0) (by decide) dX12_isHearer_14 ?_
    exact sim_zret rfl rfl rfl dX12_isHearer_15
  · refine sim_iload_n 0 rfl dX12_isHearer_4 ?_
    refine sim_bipush (v := 10) (by decide) dX12_isHearer_5 ?_
    refine sim_icmp_ge (tgt := 14) dX12_isHearer_7 (by decide) (fun c2 => ?_) (fun c2 => ?_)
    · refine sim_iconst (v := 0) (by decide) dX12_isHearer_14 ?_
      exact sim_zret rfl rfl rfl dX12_isHearer_15
    · refine sim_iconst (v := 1) (by decide) dX12_isHearer_10 ?_
      refine sim_goto (tgt := 15) dX12_isHearer_11 (by decide) ?_
      exact sim_zret rfl rfl rfl dX12_isHearer_15
theorem okX12_isHearer (p0 : Int32) (h : AH) : Ok yX12_isHearer cX12_isHearer 1 (some .boolean) 1 [.int p0] h (some (.int (fX12_isHearer p0 h)), h) := ok_of (sX12_isHearer p0 h) rfl (by decide +kernel) (Nat.le_of_ble_eq_true rfl)
def fX12_feels (p1 : Int32) (p2 : Int32) (p3 : Int32) (h : AH) : Option AH :=
  letT (sI h 103 (0 : Int32).toNatClampNeg p1) (fun g1 =>
  if p1 < 0 ∨ 20 ≤ p1.toNatClampNeg then none else
  letT (sI g1 103 (1 : Int32).toNatClampNeg (g1.1 78 p1.toNatClampNeg)) (fun g3 =>
  letT (sI g3 103 (2 : Int32).toNatClampNeg p2) (fun g4 =>
  (fX12_depthOf p1 g4).bind (fun b5 =>
  letT (sI b5.2 103 (3 : Int32).toNatClampNeg b5.1) (fun g7 =>
  (fX12_usedBy p1 g7).bind (fun b8 =>
  letT (sI g7 103 (4 : Int32).toNatClampNeg b8) (fun g10 =>
  letT (sI g10 103 (5 : Int32).toNatClampNeg (g10.1 75 2)) (fun g11 =>
  letT (sI g11 103 (6 : Int32).toNatClampNeg (g11.1 75 0)) (fun g12 =>
  letT (sI g12 103 (7 : Int32).toNatClampNeg p3) (fun g13 =>
  some g13))))))))))
theorem sX12_feels (p1 : Int32) (p2 : Int32) (p3 : Int32) (h : AH) : Sim RX12 cX12_feels 4 none 3 (Option.map oV) (fX12_feels p1 p2 p3 h) 0 [(0, .ref 75), (1, .int p1), (2, .int p2), (3, .int p3)] [] h := by
  unfold fX12_feels
  refine sim_aload_n 0 rfl dX12_feels_0 ?_
  refine sim_getR flX12_92 rfl rfl dX12_feels_1 ?_
  refine sim_iconst (v := 0) (by decide) dX12_feels_4 ?_
  refine sim_iload_n 1 rfl dX12_feels_5 ?_
  refine sim_iast rfl (by unfold vp_in; decide) dX12_feels_6 ?_
  refine sim_nmH (fun g1 => ?_)
  refine sim_aload_n 0 rfl dX12_feels_7 ?_
  refine sim_getR flX12_92 rfl rfl dX12_feels_8 ?_
  refine sim_iconst (v := 1) (by decide) dX12_feels_11 ?_
  refine sim_aload_n 0 rfl dX12_feels_12 ?_
  refine sim_getR flX12_16 rfl rfl dX12_feels_13 ?_
  refine sim_iload_n 1 rfl dX12_feels_16 ?_
  refine sim_nguard (fun c2 => ?_)
  refine sim_iald rfl c2 dX12_feels_17 ?_
  refine sim_iast rfl (by unfold vp_in; decide) dX12_feels_18 ?_
  refine sim_nmH (fun g3 => ?_)
  refine sim_aload_n 0 rfl dX12_feels_19 ?_
  refine sim_getR flX12_92 rfl rfl dX12_feels_20 ?_
  refine sim_iconst (v := 2) (by decide) dX12_feels_23 ?_
  refine sim_iload_n 2 rfl dX12_feels_24 ?_
  refine sim_iast rfl (by unfold vp_in; decide) dX12_feels_25 ?_
  refine sim_nmH (fun g4 => ?_)
  refine sim_aload_n 0 rfl dX12_feels_26 ?_
  refine sim_getR flX12_92 rfl rfl dX12_feels_27 ?_
  refine sim_iconst (v := 3) (by decide) dX12_feels_30 ?_
  refine sim_aload_n 0 rfl dX12_feels_31 ?_
  refine sim_iload_n 1 rfl dX12_feels_32 ?_
  refine sim_bind (fun b5 e6 => ?_)
  refine sim_cV (As := [.int p1]) (st := [.int (3 : Int32), .ref 103]) (r := (some (.int b5.1))) (h1 := b5.2) (okX12_depthOf p1 g4 b5 e6) (fun _ => rfl) mlX12_215 mtX12_depthOf rfl rfl rfl rfl (Nat.le_of_ble_eq_true rfl) rfl (Nat.le_of_ble_eq_true rfl) dX12_feels_33 ?_
  refine sim_iast rfl (by unfold vp_in; decide) dX12_feels_36 ?_
  refine sim_nmH (fun g7 => ?_)
  refine sim_aload_n 0 rfl dX12_feels_37 ?_
  refine sim_getR flX12_92 rfl rfl dX12_feels_38 ?_
  refine sim_iconst (v := 4) (by decide) dX12_feels_41 ?_
  refine sim_aload_n 0 rfl dX12_feels_42 ?_
  refine sim_iload_n 1 rfl dX12_feels_43 ?_
  refine sim_bind (fun b8 e9 => ?_)
  refine sim_cV (As := [.int p1]) (st := [.int (4 : Int32), .ref 103]) (r := (some (.int b8))) (h1 := g7) (okX12_usedBy p1 g7 b8 e9) (fun _ => rfl) mlX12_219 mtX12_usedBy rfl rfl rfl rfl (Nat.le_of_ble_eq_true rfl) rfl (Nat.le_of_ble_eq_true rfl) dX12_feels_44 ?_
  refine sim_iast rfl (by unfold vp_in; decide) dX12_feels_47 ?_
  refine sim_nmH (fun g10 => ?_)
  refine sim_aload_n 0 rfl dX12_feels_48 ?_
  refine sim_getR flX12_92 rfl rfl dX12_feels_49 ?_
  refine sim_iconst (v := 5) (by decide) dX12_feels_52 ?_
  refine sim_aload_n 0 rfl dX12_feels_53 ?_
  refine sim_getI flX12_145 rfl rfl dX12_feels_54 ?_
  refine sim_iast rfl (by unfold vp_in; decide) dX12_feels_57 ?_
  refine sim_nmH (fun g11 => ?_)
  refine sim_aload_n 0 rfl dX12_feels_58 ?_
  refine sim_getR flX12_92 rfl rfl dX12_feels_59 ?_
  refine sim_bipush (v := 6) (by decide) dX12_feels_62 ?_
  refine sim_aload_n 0 rfl dX12_feels_64 ?_
  refine sim_getI flX12_134 rfl rfl dX12_feels_65 ?_
  refine sim_iast rfl (by unfold vp_in; decide) dX12_feels_68 ?_
  refine sim_nmH (fun g12 => ?_)
  refine sim_aload_n 0 rfl dX12_feels_69 ?_
  refine sim_getR flX12_92 rfl rfl dX12_feels_70 ?_
  refine sim_bipush (v := 7) (by decide) dX12_feels_73 ?_
  refine sim_iload_n 3 rfl dX12_feels_75 ?_
  refine sim_iast rfl (by unfold vp_in; decide) dX12_feels_76 ?_
  refine sim_nmH (fun g13 => ?_)
  exact sim_vret rfl rfl dX12_feels_77
theorem okX12_feels (p1 : Int32) (p2 : Int32) (p3 : Int32) (h : AH) (b : AH) (e : fX12_feels p1 p2 p3 h = some b) : Ok yX12_feels cX12_feels 4 none 3 [.ref 75, .int p1, .int p2, .int p3] h (none, b) := ok_of (sX12_feels p1 p2 p3 h) (by rw [e]; rfl) (by decide +kernel) (Nat.le_of_ble_eq_true rfl)
def fX12_reckon (p0 : Int32) (p1 : Int32) (p2 : Int32) (h : AH) : Option Int32 :=
  if p0 = 2 then
    some (p1 + p2)
  else
  if p0 = 3 then
    some (p1 - p2)
  else
  if p0 = 4 then
    some (p1 * p2)
  else
  if p0 = 5 then
    if p2 = 0 then none else
    some (p1 / p2)
  else
  if p0 = 6 then
    if p2 = 0 then none else
    some (jrem p1 p2)
  else
  if p0 = 7 then
    if p1 < p2 then
      some (1 : Int32)
    else
      some (0 : Int32)
  else
  if p0 = 8 then
    if p2 < p1 then
      some (1 : Int32)
    else
      some (0 : Int32)
  else
  if p1 = p2 then
    some (1 : Int32)
  else
    some (0 : Int32)
theorem sX12_reckon (p0 : Int32) (p1 : Int32) (p2 : Int32) (h : AH) : Sim RX12 cX12_reckon 3 (some .int) 1 (Option.map (pI h)) (fX12_reckon p0 p1 p2 h) 0 [(0, .int p0), (1, .int p1), (2, .int p2)] [] h := by
  unfold fX12_reckon
  refine sim_iload_n 0 rfl dX12_reckon_0 ?_
  refine sim_case (v := 2) (tgt := 44) (2) dX12_reckon_1 (by decide) (by decide) (by decide) rfl (by decide) ?_ (fun c1 => ?_)
  · refine sim_iload_n 1 rfl dX12_reckon_44 ?_
    refine sim_iload_n 2 rfl dX12_reckon_45 ?_
    refine sim_iadd dX12_reckon_46 ?_
    exact sim_iret rfl rfl dX12_reckon_47
  refine sim_case (v := 3) (tgt := 48) (3) dX12_reckon_1 (by decide) (by decide) (by decide) rfl (by decide) ?_ (fun c2 => ?_)
  · refine sim_iload_n 1 rfl dX12_reckon_48 ?_
    refine sim_iload_n 2 rfl dX12_reckon_49 ?_
    refine sim_isub dX12_reckon_50 ?_
    exact sim_iret rfl rfl dX12_reckon_51
  refine sim_case (v := 4) (tgt := 52) (4) dX12_reckon_1 (by decide) (by decide) (by decide) rfl (by decide) ?_ (fun c3 => ?_)
  · refine sim_iload_n 1 rfl dX12_reckon_52 ?_
    refine sim_iload_n 2 rfl dX12_reckon_53 ?_
    refine sim_imul dX12_reckon_54 ?_
    exact sim_iret rfl rfl dX12_reckon_55
  refine sim_case (v := 5) (tgt := 56) (5) dX12_reckon_1 (by decide) (by decide) (by decide) rfl (by decide) ?_ (fun c4 => ?_)
  · refine sim_iload_n 1 rfl dX12_reckon_56 ?_
    refine sim_iload_n 2 rfl dX12_reckon_57 ?_
    refine sim_nguard (fun c5 => ?_)
    refine sim_idiv c5 dX12_reckon_58 ?_
    exact sim_iret rfl rfl dX12_reckon_59
  refine sim_case (v := 6) (tgt := 60) (6) dX12_reckon_1 (by decide) (by decide) (by decide) rfl (by decide) ?_ (fun c6 => ?_)
  · refine sim_iload_n 1 rfl dX12_reckon_60 ?_
    refine sim_iload_n 2 rfl dX12_reckon_61 ?_
    refine sim_nguard (fun c7 => ?_)
    refine sim_irem c7 dX12_reckon_62 ?_
    exact sim_iret rfl rfl dX12_reckon_63
  refine sim_case (v := 7) (tgt := 64) (7) dX12_reckon_1 (by decide) (by decide) (by decide) rfl (by decide) ?_ (fun c8 => ?_)
  · refine sim_iload_n 1 rfl dX12_reckon_64 ?_
    refine sim_iload_n 2 rfl dX12_reckon_65 ?_
    refine sim_icmp_ge (tgt := 73) dX12_reckon_66 (by decide) (fun c9 => ?_) (fun c9 => ?_)
    · refine sim_iconst (v := 0) (by decide) dX12_reckon_73 ?_
      exact sim_iret rfl rfl dX12_reckon_74
    · refine sim_iconst (v := 1) (by decide) dX12_reckon_69 ?_
      refine sim_goto (tgt := 74) dX12_reckon_70 (by decide) ?_
      exact sim_iret rfl rfl dX12_reckon_74
  refine sim_case (v := 8) (tgt := 75) (8) dX12_reckon_1 (by decide) (by decide) (by decide) rfl (by decide) ?_ (fun c10 => ?_)
  · refine sim_iload_n 1 rfl dX12_reckon_75 ?_
    refine sim_iload_n 2 rfl dX12_reckon_76 ?_
    refine sim_icmp_le (tgt := 84) dX12_reckon_77 (by decide) (fun c11 => ?_) (fun c11 => ?_)
    · refine sim_iconst (v := 0) (by decide) dX12_reckon_84 ?_
      exact sim_iret rfl rfl dX12_reckon_85
    · refine sim_iconst (v := 1) (by decide) dX12_reckon_80 ?_
      refine sim_goto (tgt := 85) dX12_reckon_81 (by decide) ?_
      exact sim_iret rfl rfl dX12_reckon_85
  refine sim_dflt (tgt := 86) dX12_reckon_1 (by omega) (by decide) ?_
  refine sim_iload_n 1 rfl dX12_reckon_86 ?_
  refine sim_iload_n 2 rfl dX12_reckon_87 ?_
  refine sim_icmp_ne (tgt := 95) dX12_reckon_88 (by decide) (fun c12 => ?_) (fun c12 => ?_)
  · refine sim_iconst (v := 0) (by decide) dX12_reckon_95 ?_
    exact sim_iret rfl rfl dX12_reckon_96
  · refine sim_iconst (v := 1) (by decide) dX12_reckon_91 ?_
    refine sim_goto (tgt := 96) dX12_reckon_92 (by decide) ?_
    exact sim_iret rfl rfl dX12_reckon_96
theorem okX12_reckon (p0 : Int32) (p1 : Int32) (p2 : Int32) (h : AH) (b : Int32) (e : fX12_reckon p0 p1 p2 h = some b) : Ok yX12_reckon cX12_reckon 3 (some .int) 1 [.int p0, .int p1, .int p2] h (some (.int b), h) := ok_of (sX12_reckon p0 p1 p2 h) (by rw [e]; rfl) (by decide +kernel) (Nat.le_of_ble_eq_true rfl)
def fX12_comesTo_l16b (rec : Int32 → Int32 → AH → Option (Int32 × AH)) (K233 : AH → Option (Int32 × AH)) (x2 : Int32) (x4 : Int32) (x3 : Int32) (x5 : Int32) (h : AH) : Option (Int32 × AH) :=
  if x5 < x2 then
    if x5 < 0 ∨ 220 ≤ x5.toNatClampNeg then none else
    letT ((h.1 97 x5.toNatClampNeg) / (1048576 : Int32)) (fun v4 =>
    if x5 < 0 ∨ 220 ≤ x5.toNatClampNeg then none else
    letT (jrem (h.1 97 x5.toNatClampNeg) (1048576 : Int32)) (fun v6 =>
    letT (x5 + (1 : Int32)) (fun v7 =>
    letT (if v4 = 0 then
        if x3 < 0 ∨ 220 ≤ x3.toNatClampNeg then none else
        letT (sI h 102 x3.toNatClampNeg v6) (fun g15 =>
        letT (x3 + (1 : Int32)) (fun v16 =>
        rec v16 v7 g15))
      else
        if v6 < 0 ∨ 8 ≤ v6.toNatClampNeg then none else
        if x3 < 0 ∨ 220 ≤ x3.toNatClampNeg then none else
        letT (sI h 102 x3.toNatClampNeg (h.1 103 v6.toNatClampNeg)) (fun g12 =>
        letT (x3 + (1 : Int32)) (fun v13 =>
        rec v13 v7 g12))) (fun J8 =>
    if v4 = 0 then
      J8
    else
      if v4 = (1 : Int32) then
        J8
      else
        if v4 = (10 : Int32) then
          if (x3 - (1 : Int32)) < 0 ∨ 220 ≤ (x3 - (1 : Int32)).toNatClampNeg then none else
          if (x3 - (1 : Int32)) < 0 ∨ 220 ≤ (x3 - (1 : Int32)).toNatClampNeg then none else
          letT (sI h 102 (x3 - (1 : Int32)).toNatClampNeg ((1 : Int32) - (h.1 102 (x3 - (1 : Int32)).toNatClampNeg))) (fun g44 =>
          rec x3 v7 g44)
        else
          letT (if (x3 - (1 : Int32)) < 0 ∨ 220 ≤ (x3 - (1 : Int32)).toNatClampNeg then none else
            if v4 = (12 : Int32) then
              if (h.1 102 (x3 - (1 : Int32)).toNatClampNeg) = (1 : Int32) then
                rec x3 (x4 + v6) h
              else
                letT (x3 - (1 : Int32)) (fun v26 =>
                rec v26 v7 h)
            else
              if (h.1 102 (x3 - (1 : Int32)).toNatClampNeg) = (0 : Int32) then
                rec x3 (x4 + v6) h
              else
                letT (x3 - (1 : Int32)) (fun v24 =>
                rec v24 v7 h)) (fun J20 =>
          if v4 = (11 : Int32) then
            J20
          else
            if v4 = (12 : Int32) then
              J20
            else
              letT (x3 - (1 : Int32)) (fun v29 =>
              letT (if (v29 - (1 : Int32)) < 0 ∨ 220 ≤ (v29 - (1 : Int32)).toNatClampNeg then none else
                if v29 < 0 ∨ 220 ≤ v29.toNatClampNeg then none else
                (fX12_reckon v4 (h.1 102 (v29 - (1 : Int32)).toNatClampNeg) (h.1 102 v29.toNatClampNeg) h).bind (fun b33 =>
                if (v29 - (1 : Int32)) < 0 ∨ 220 ≤ (v29 - (1 : Int32)).toNatClampNeg then none else
                letT (sI h 102 (v29 - (1 : Int32)).toNatClampNeg b33) (fun g36 =>
                rec v29 v7 g36))) (fun J30 =>
              letT (if v29 < 0 ∨ 220 ≤ v29.toNatClampNeg then none else
                if (h.1 102 v29.toNatClampNeg) = 0 then
                  some ((0 : Int32), h)
                else
                  J30) (fun J37 =>
              if v4 = (5 : Int32) then
                J37
              else
                if v4 = (6 : Int32) then
                  J37
                else
                  J30))))))))
  else
    K233 h
def fX12_comesTo_l16 (K233 : AH → Option (Int32 × AH)) (x2 : Int32) (x4 : Int32) : Nat → Int32 → Int32 → AH → Option (Int32 × AH)
  | 0, _, _, _ => none
  | n + 1, x3, x5, h => fX12_comesTo_l16b (fX12_comesTo_l16 K233 x2 x4 n) K233 x2 x4 x3 x5 h
theorem sX12_comesTo_l16b {rec : Int32 → Int32 → AH → Option (Int32 × AH)} {K233 : AH → Option (Int32 × AH)} {x2 : Int32} {x4 : Int32} (hR : ∀ (x3 : Int32) (x5 : Int32) (h : AH), Sim RX12 cX12_comesTo 8 (some .int) 2 (Option.map oI) (rec x3 x5 h) 16 [(0, .ref 75), (2, .int x2), (3, .int x3), (4, .int x4), (5, .int x5)] [] h) (hK233 : ∀ (g : AH), Sim RX12 cX12_comesTo 8 (some .int) 2 (Option.map oI) (K233 g) 233 [(0, .ref 75)] [] g) : ∀ (x3 : Int32) (x5 : Int32) (h : AH), Sim RX12 cX12_comesTo 8 (some .int) 2 (Option.map oI) (fX12_comesTo_l16b rec K233 x2 x4 x3 x5 h) 16 [(0, .ref 75), (2, .int x2), (3, .int x3), (4, .int x4), (5, .int x5)] [] h := by
  intro x3 x5 h
  unfold fX12_comesTo_l16b
  refine sim_iload 4 rfl dX12_comesTo_16 ?_
  refine sim_iload_n 1 rfl dX12_comesTo_18 ?_
  refine sim_icmp_ge (tgt := 233) dX12_comesTo_19 (by decide) (fun c2 => ?_) (fun c2 => ?_)
  · refine sim_sub [0] rfl ?_
    exact hK233 h
  · refine sim_aload_n 0 rfl dX12_comesTo_22 ?_
    refine sim_getR flX12_74 rfl rfl dX12_comesTo_23 ?_
    refine sim_iload 4 rfl dX12_comesTo_26 ?_
    refine sim_nguard (fun c3 => ?_)
    refine sim_iald rfl c3 dX12_comesTo_28 ?_
    refine sim_ldc kcX12_241 dX12_comesTo_29 ?_
    refine sim_idiv (by decide) dX12_comesTo_31 ?_
    refine sim_nmI (fun v4 => ?_)
    refine sim_istore (L' := [(6, .int v4), (0, .ref 75), (2, .int x2), (3, .int x3), (4, .int x4), (5, .int x5)]) rfl (by decide) dX12_comesTo_32 ?_
    refine sim_aload_n 1 rfl dX12_comesTo_34 ?_
    refine sim_getR flX12_74 rfl rfl dX12_comesTo_35 ?_
    refine sim_iload 5 rfl dX12_comesTo_38 ?_
    refine sim_nguard (fun c5 => ?_)
    refine sim_iald rfl c5 dX12_comesTo_40 ?_
    refine sim_ldc kcX12_241 dX12_comesTo_41 ?_
    refine sim_irem (by decide) dX12_comesTo_43 ?_
    refine sim_nmI (fun v6 => ?_)
    refine sim_istore (L' := [(7, .int v6), (6, .int v4), (0, .ref 75), (2, .int x2), (3, .int x3), (4, .int x4), (5, .int x5)]) rfl (by decide) dX12_comesTo_44 ?_
    refine sim_iload 6 rfl dX12_comesTo_46 ?_
    refine sim_iconst (v := 1) (by decide) dX12_comesTo_48 ?_
    refine sim_iadd dX12_comesTo_49 ?_
    refine sim_nmI (fun v7 => ?_)
    refine sim_istore (L' := [(5, .int v7), (7, .int v6), (6, .int v4), (0, .ref 75), (2, .int x2), (3, .int x3), (4, .int x4)]) rfl (by decide) dX12_comesTo_50 ?_
    refine sim_iload 2 rfl dX12_comesTo_52 ?_
    refine sim_letJ (fun J8 => Sim RX12 cX12_comesTo 8 (some .int) 2 (Option.map oI) (J8) 63 [(0, .ref 75), (2, .int x2), (3, .int x3), (4, .int x4), (5, .int v7), (6, .int v4), (7, .int v6)] [] h) (?_) (fun J8 hJ8 => ?_)
    · refine sim_aload_n 0 rfl dX12_comesTo_63 ?_
      refine sim_getR flX12_89 rfl rfl dX12_comesTo_64 ?_
      refine sim_iload_n 2 rfl dX12_comesTo_67 ?_
      refine sim_iload 5 rfl dX12_comesTo_68 ?_
      refine sim_if_ne (tgt := 78) dX12_comesTo_70 (by decide) (fun c9 => ?_) (fun c9 => ?_)
      · refine sim_aload_n 0 rfl dX12_comesTo_78 ?_
        refine sim_getR flX12_92 rfl rfl dX12_comesTo_79 ?_
        refine sim_iload 6 rfl dX12_comesTo_82 ?_
        refine sim_nguard (fun c10 => ?_)
        refine sim_iald rfl c10 dX12_comesTo_84 ?_
        refine sim_nguard (fun c11 => ?_)
        refine sim_iast rfl c11 dX12_comesTo_85 ?_
        refine sim_nmH (fun g12 => ?_)
        refine sim_iload_n 2 rfl dX12_comesTo_86 ?_
        refine sim_iconst (v := 1) (by decide) dX12_comesTo_87 ?_
        refine sim_iadd dX12_comesTo_88 ?_
        refine sim_nmI (fun v13 => ?_)
        refine sim_istore_n (L' := [(3, .int v13), (0, .ref 75), (2, .int x2), (4, .int x4), (5, .int v7), (6, .int v4), (7, .int v6)]) rfl (by decide) dX12_comesTo_89 ?_
        refine sim_goto (tgt := 230) dX12_comesTo_90 (by decide) ?_
        refine sim_goto (tgt := 16) dX12_comesTo_230 (by decide) ?_
        refine sim_sub [1, 2, 0, 3, 4] rfl ?_
        exact hR v13 v7 g12
      · refine sim_iload 6 rfl dX12_comesTo_73 ?_
        refine sim_goto (tgt := 85) dX12_comesTo_75 (by decide) ?_
        refine sim_nguard (fun c14 => ?_)
        refine sim_iast rfl c14 dX12_comesTo_85 ?_
        refine sim_nmH (fun g15 => ?_)
        refine sim_iload_n 2 rfl dX12_comesTo_86 ?_
        refine sim_iconst (v := 1) (by decide) dX12_comesTo_87 ?_
        refine sim_iadd dX12_comesTo_88 ?_
        refine sim_nmI (fun v16 => ?_)
        refine sim_istore_n (L' := [(3, .int v16), (0, .ref 75), (2, .int x2), (4, .int x4), (5, .int v7), (6, .int v4), (7, .int v6)]) rfl (by decide) dX12_comesTo_89 ?_
        refine sim_goto (tgt := 230) dX12_comesTo_90 (by decide) ?_
        refine sim_goto (tgt := 16) dX12_comesTo_230 (by decide) ?_
        refine sim_sub [1, 2, 0, 3, 4] rfl ?_
        exact hR v16 v7 g15
    refine sim_if_eq (tgt := 63) dX12_comesTo_54 (by decide) (fun c17 => ?_) (fun c17 => ?_)
    · refine sim_sub [3, 4, 5, 6, 0, 2, 1] rfl ?_
      exact hJ8
    · refine sim_iload 2 rfl dX12_comesTo_57 ?_
      refine sim_iconst (v := 1) (by decide) dX12_comesTo_59 ?_
      refine sim_icmp_ne (tgt := 93) dX12_comesTo_60 (by decide) (fun c18 => ?_) (fun c18 => ?_)
      · refine sim_iload 2 rfl dX12_comesTo_93 ?_
        refine sim_bipush (v := 10) (by decide) dX12_comesTo_95 ?_
        refine sim_icmp_ne (tgt := 121) dX12_comesTo_97 (by decide) (fun c19 => ?_) (fun c19 => ?_)
        · refine sim_iload 2 rfl dX12_comesTo_121 ?_
          refine sim_bipush (v := 11) (by decide) dX12_comesTo_123 ?_
          refine sim_letJ (fun J20 => Sim RX12 cX12_comesTo 8 (some .int) 2 (Option.map oI) (J20) 135 [(0, .ref 75), (2, .int x2), (3, .int x3), (4, .int x4), (5, .int v7), (6, .int v4), (7, .int v6)] [] h) (?_) (fun J20 hJ20 => ?_)
          · refine sim_aload_n 0 rfl dX12_comesTo_135 ?_
            refine sim_getR flX12_89 rfl rfl dX12_comesTo_136 ?_
            refine sim_iload_n 2 rfl dX12_comesTo_139 ?_
            refine sim_iconst (v := 1) (by decide) dX12_comesTo_140 ?_
            refine sim_isub dX12_comesTo_141 ?_
            refine sim_nguard (fun c21 => ?_)
            refine sim_iald rfl c21 dX12_comesTo_142 ?_
            refine sim_iload 5 rfl dX12_comesTo_143 ?_
            refine sim_bipush (v := 12) (by decide) dX12_comesTo_145 ?_
            refine sim_icmp_ne (tgt := 154) dX12_comesTo_147 (by decide) (fun c22 => ?_) (fun c22 => ?_)
            · refine sim_iconst (v := 0) (by decide) dX12_comesTo_154 ?_
              refine sim_icmp_ne (tgt := 168) dX12_comesTo_155 (by decide) (fun c23 => ?_) (fun c23 => ?_)
              · refine sim_iload_n 2 rfl dX12_comesTo_168 ?_
                refine sim_iconst (v := 1) (by decide) dX12_comesTo_169 ?_
                refine sim_isub dX12_comesTo_170 ?_
                refine sim_nmI (fun v24 => ?_)
                refine sim_istore_n (L' := [(3, .int v24), (0, .ref 75), (2, .int x2), (4, .int x4), (5, .int v7), (6, .int v4), (7, .int v6)]) rfl (by decide) dX12_comesTo_171 ?_
                refine sim_goto (tgt := 230) dX12_comesTo_172 (by decide) ?_
                refine sim_goto (tgt := 16) dX12_comesTo_230 (by decide) ?_
                refine sim_sub [1, 2, 0, 3, 4] rfl ?_
                exact hR v24 v7 h
              · refine sim_iload 3 rfl dX12_comesTo_158 ?_
                refine sim_iload 6 rfl dX12_comesTo_160 ?_
                refine sim_iadd dX12_comesTo_162 ?_
                refine sim_istore (L' := [(5, .int (x4 + v6)), (0, .ref 75), (2, .int x2), (3, .int x3), (4, .int x4), (6, .int v4), (7, .int v6)]) rfl (by decide) dX12_comesTo_163 ?_
                refine sim_goto (tgt := 230) dX12_comesTo_165 (by decide) ?_
                refine sim_goto (tgt := 16) dX12_comesTo_230 (by decide) ?_
                refine sim_sub [1, 2, 3, 4, 0] rfl ?_
                exact hR x3 (x4 + v6) h
            · refine sim_iconst (v := 1) (by decide) dX12_comesTo_150 ?_
              refine sim_goto (tgt := 155) dX12_comesTo_151 (by decide) ?_
              refine sim_icmp_ne (tgt := 168) dX12_comesTo_155 (by decide) (fun c25 => ?_) (fun c25 => ?_)
              · refine sim_iload_n 2 rfl dX12_comesTo_168 ?_
                refine sim_iconst (v := 1) (by decide) dX12_comesTo_169 ?_
                refine sim_isub dX12_comesTo_170 ?_
                refine sim_nmI (fun v26 => ?_)
                refine sim_istore_n (L' := [(3, .int v26), (0, .ref 75), (2, .int x2), (4, .int x4), (5, .int v7), (6, .int v4), (7, .int v6)]) rfl (by decide) dX12_comesTo_171 ?_
                refine sim_goto (tgt := 230) dX12_comesTo_172 (by decide) ?_
                refine sim_goto (tgt := 16) dX12_comesTo_230 (by decide) ?_
                refine sim_sub [1, 2, 0, 3, 4] rfl ?_
                exact hR v26 v7 h
              · refine sim_iload 3 rfl dX12_comesTo_158 ?_
                refine sim_iload 6 rfl dX12_comesTo_160 ?_
                refine sim_iadd dX12_comesTo_162 ?_
                refine sim_istore (L' := [(5, .int (x4 + v6)), (0, .ref 75), (2, .int x2), (3, .int x3), (4, .int x4), (6, .int v4), (7, .int v6)]) rfl (by decide) dX12_comesTo_163 ?_
                refine sim_goto (tgt := 230) dX12_comesTo_165 (by decide) ?_
                refine sim_goto (tgt := 16) dX12_comesTo_230 (by decide) ?_
                refine sim_sub [1, 2, 3, 4, 0] rfl ?_
                exact hR x3 (x4 + v6) h
          refine sim_icmp_eq (tgt := 135) dX12_comesTo_125 (by decide) (fun c27 => ?_) (fun c27 => ?_)
          · refine sim_sub [3, 4, 5, 6, 0, 2, 1] rfl ?_
            exact hJ20
          · refine sim_iload 2 rfl dX12_comesTo_128 ?_
            refine sim_bipush (v := 12) (by decide) dX12_comesTo_130 ?_
            refine sim_icmp_ne (tgt := 175) dX12_comesTo_132 (by decide) (fun c28 => ?_) (fun c28 => ?_)
            · refine sim_iload_n 5 rfl dX12_comesTo_175 ?_
              refine sim_iconst (v := 1) (by decide) dX12_comesTo_176 ?_
              refine sim_isub dX12_comesTo_177 ?_
              refine sim_nmI (fun v29 => ?_)
              refine sim_istore_n (L' := [(3, .int v29), (5, .int v7), (7, .int v6), (6, .int v4), (0, .ref 75), (2, .int x2), (4, .int x4)]) rfl (by decide) dX12_comesTo_178 ?_
              refine sim_iload 3 rfl dX12_comesTo_179 ?_
              refine sim_iconst (v := 5) (by decide) dX12_comesTo_181 ?_
              refine sim_letJ (fun J30 => Sim RX12 cX12_comesTo 8 (some .int) 2 (Option.map oI) (J30) 203 [(0, .ref 75), (2, .int x2), (3, .int v29), (4, .int x4), (5, .int v7), (6, .int v4)] [] h) (?_) (fun J30 hJ30 => ?_)
              · refine sim_aload_n 0 rfl dX12_comesTo_203 ?_
                refine sim_getR flX12_89 rfl rfl dX12_comesTo_204 ?_
                refine sim_iload_n 2 rfl dX12_comesTo_207 ?_
                refine sim_iconst (v := 1) (by decide) dX12_comesTo_208 ?_
                refine sim_isub dX12_comesTo_209 ?_
                refine sim_iload 5 rfl dX12_comesTo_210 ?_
                refine sim_aload_n 0 rfl dX12_comesTo_212 ?_
                refine sim_getR flX12_89 rfl rfl dX12_comesTo_213 ?_
                refine sim_iload_n 2 rfl dX12_comesTo_216 ?_
                refine sim_iconst (v := 1) (by decide) dX12_comesTo_217 ?_
                refine sim_isub dX12_comesTo_218 ?_
                refine sim_nguard (fun c31 => ?_)
                refine sim_iald rfl c31 dX12_comesTo_219 ?_
                refine sim_aload_n 0 rfl dX12_comesTo_220 ?_
                refine sim_getR flX12_89 rfl rfl dX12_comesTo_221 ?_
                refine sim_iload_n 2 rfl dX12_comesTo_224 ?_
                refine sim_nguard (fun c32 => ?_)
                refine sim_iald rfl c32 dX12_comesTo_225 ?_
                refine sim_bind (fun b33 e34 => ?_)
                refine sim_cS (As := [.int v4, .int (h.1 102 (v29 - (1 : Int32)).toNatClampNeg), .int (h.1 102 v29.toNatClampNeg)]) (st := [.int (v29 - (1 : Int32)), .ref 102]) (r := (some (.int b33))) (h1 := h) (okX12_reckon v4 (h.1 102 (v29 - (1 : Int32)).toNatClampNeg) (h.1 102 v29.toNatClampNeg) h b33 e34) (fun _ => rfl) mlX12_304 mtX12_reckon rfl (Nat.le_of_ble_eq_true rfl) rfl (Nat.le_of_ble_eq_true rfl) dX12_comesTo_226 ?_
                refine sim_nguard (fun c35 => ?_)
                refine sim_iast rfl c35 dX12_comesTo_229 ?_
                refine sim_nmH (fun g36 => ?_)
                refine sim_goto (tgt := 16) dX12_comesTo_230 (by decide) ?_
                refine sim_sub [0, 1, 2, 3, 4] rfl ?_
                exact hR v29 v7 g36
              refine sim_letJ (fun J37 => Sim RX12 cX12_comesTo 8 (some .int) 2 (Option.map oI) (J37) 192 [(0, .ref 75), (2, .int x2), (3, .int v29), (4, .int x4), (5, .int v7), (6, .int v4)] [] h) (?_) (fun J37 hJ37 => ?_)
              · refine sim_aload_n 0 rfl dX12_comesTo_192 ?_
                refine sim_getR flX12_89 rfl rfl dX12_comesTo_193 ?_
                refine sim_iload_n 2 rfl dX12_comesTo_196 ?_
                refine sim_nguard (fun c38 => ?_)
                refine sim_iald rfl c38 dX12_comesTo_197 ?_
                refine sim_if_ne (tgt := 203) dX12_comesTo_198 (by decide) (fun c39 => ?_) (fun c39 => ?_)
                · exact hJ30
                · refine sim_iconst (v := 0) (by decide) dX12_comesTo_201 ?_
                  exact sim_iret rfl rfl dX12_comesTo_202
              refine sim_icmp_eq (tgt := 192) dX12_comesTo_182 (by decide) (fun c40 => ?_) (fun c40 => ?_)
              · refine sim_sub [4, 5, 0, 6, 1, 3] rfl ?_
                exact hJ37
              · refine sim_iload 3 rfl dX12_comesTo_185 ?_
                refine sim_bipush (v := 6) (by decide) dX12_comesTo_187 ?_
                refine sim_icmp_ne (tgt := 203) dX12_comesTo_189 (by decide) (fun c41 => ?_) (fun c41 => ?_)
                · refine sim_sub [4, 5, 0, 6, 1, 3] rfl ?_
                  exact hJ30
                · refine sim_sub [4, 5, 0, 6, 1, 3] rfl ?_
                  exact hJ37
            · refine sim_sub [3, 4, 5, 6, 0, 2, 1] rfl ?_
              exact hJ20
        · refine sim_aload_n 3 rfl dX12_comesTo_100 ?_
          refine sim_getR flX12_89 rfl rfl dX12_comesTo_101 ?_
          refine sim_iload_n 5 rfl dX12_comesTo_104 ?_
          refine sim_iconst (v := 1) (by decide) dX12_comesTo_105 ?_
          refine sim_isub dX12_comesTo_106 ?_
          refine sim_iconst (v := 1) (by decide) dX12_comesTo_107 ?_
          refine sim_aload_n 3 rfl dX12_comesTo_108 ?_
          refine sim_getR flX12_89 rfl rfl dX12_comesTo_109 ?_
          refine sim_iload_n 5 rfl dX12_comesTo_112 ?_
          refine sim_iconst (v := 1) (by decide) dX12_comesTo_113 ?_
          refine sim_isub dX12_comesTo_114 ?_
          refine sim_nguard (fun c42 => ?_)
          refine sim_iald rfl c42 dX12_comesTo_115 ?_
          refine sim_isub dX12_comesTo_116 ?_
          refine sim_nguard (fun c43 => ?_)
          refine sim_iast rfl c43 dX12_comesTo_117 ?_
          refine sim_nmH (fun g44 => ?_)
          refine sim_goto (tgt := 230) dX12_comesTo_118 (by decide) ?_
          refine sim_goto (tgt := 16) dX12_comesTo_230 (by decide) ?_
          refine sim_sub [3, 4, 5, 6, 0] rfl ?_
          exact hR x3 v7 g44
      · refine sim_sub [3, 4, 5, 6, 0, 2, 1] rfl ?_
        exact hJ8
theorem sX12_comesTo_l16 {K233 : AH → Option (Int32 × AH)} {x2 : Int32} {x4 : Int32} (hK233 : ∀ (g : AH), Sim RX12 cX12_comesTo 8 (some .int) 2 (Option.map oI) (K233 g) 233 [(0, .ref 75)] [] g) : ∀ (n : Nat) (x3 : Int32) (x5 : Int32) (h : AH), Sim RX12 cX12_comesTo 8 (some .int) 2 (Option.map oI) (fX12_comesTo_l16 K233 x2 x4 n x3 x5 h) 16 [(0, .ref 75), (2, .int x2), (3, .int x3), (4, .int x4), (5, .int x5)] [] h := by
  intro n
  induction n with
  | zero => intro x3 x5 h; exact sim_none
  | succ n ih => intro x3 x5 h; exact sX12_comesTo_l16b ih hK233 x3 x5 h
def fX12_comesTo (p1 : Int32) (p2 : Int32) (h : AH) : Option (Int32 × AH) :=
  letT ((220 : Int32) * (p1 / (220 : Int32))) (fun v1 =>
  fX12_comesTo_l16 (fun (g45 : AH) =>
    some (g45.1 102 (0 : Int32).toNatClampNeg, g45)) p2 v1 fuel0 (0 : Int32) p1 h)
theorem sX12_comesTo (p1 : Int32) (p2 : Int32) (h : AH) : Sim RX12 cX12_comesTo 8 (some .int) 2 (Option.map oI) (fX12_comesTo p1 p2 h) 0 [(0, .ref 75), (1, .int p1), (2, .int p2)] [] h := by
  unfold fX12_comesTo
  refine sim_iconst (v := 0) (by decide) dX12_comesTo_0 ?_
  refine sim_istore_n (L' := [(3, .int (0 : Int32)), (0, .ref 75), (1, .int p1), (2, .int p2)]) rfl (by decide) dX12_comesTo_1 ?_
  refine sim_sipush (v := 220) (by decide) dX12_comesTo_2 ?_
  refine sim_iload_n 2 rfl dX12_comesTo_5 ?_
  refine sim_sipush (v := 220) (by decide) dX12_comesTo_6 ?_
  refine sim_idiv (by decide) dX12_comesTo_9 ?_
  refine sim_imul dX12_comesTo_10 ?_
  refine sim_nmI (fun v1 => ?_)
  refine sim_istore (L' := [(4, .int v1), (3, .int (0 : Int32)), (0, .ref 75), (1, .int p1), (2, .int p2)]) rfl (by decide) dX12_comesTo_11 ?_
  refine sim_iload_n 3 rfl dX12_comesTo_13 ?_
  refine sim_istore (L' := [(5, .int p1), (4, .int v1), (3, .int (0 : Int32)), (0, .ref 75), (1, .int p1), (2, .int p2)]) rfl (by decide) dX12_comesTo_14 ?_
  refine sim_sub [3, 5, 2, 1, 0] rfl ?_
  refine sX12_comesTo_l16 (fun g45 => ?_) _ (0 : Int32) p1 h
  · refine sim_aload_n 0 rfl dX12_comesTo_233 ?_
    refine sim_getR flX12_89 rfl rfl dX12_comesTo_234 ?_
    refine sim_iconst (v := 0) (by decide) dX12_comesTo_237 ?_
    refine sim_iald rfl (by unfold vp_in; decide) dX12_comesTo_238 ?_
    exact sim_iret rfl rfl dX12_comesTo_239
theorem okX12_comesTo (p1 : Int32) (p2 : Int32) (h : AH) (b : Int32 × AH) (e : fX12_comesTo p1 p2 h = some b) : Ok yX12_comesTo cX12_comesTo 8 (some .int) 2 [.ref 75, .int p1, .int p2] h (some (.int b.1), b.2) := ok_of (sX12_comesTo p1 p2 h) (by rw [e]; rfl) (by decide +kernel) (Nat.le_of_ble_eq_true rfl)
def fX12_readsIt_l10b (rec : Int32 → AH → Option (Int32 × AH)) (x4 : Int32) (h : AH) : Option (Int32 × AH) :=
  if x4 < (h.1 75 28) then
    if x4 < 0 ∨ 14 ≤ x4.toNatClampNeg then none else
    if (h.1 98 x4.toNatClampNeg) = (114 : Int32) then
      if x4 < 0 ∨ 14 ≤ x4.toNatClampNeg then none else
      if x4 < 0 ∨ 14 ≤ x4.toNatClampNeg then none else
      (fX12_comesTo (h.1 100 x4.toNatClampNeg) (h.1 101 x4.toNatClampNeg) h).bind (fun b8 =>
      if b8.1 = (1 : Int32) then
        some ((1 : Int32), b8.2)
      else
        rec (x4 + 1) b8.2)
    else
      rec (x4 + 1) h
  else
    some ((0 : Int32), h)
def fX12_readsIt_l10 : Nat → Int32 → AH → Option (Int32 × AH)
  | 0, _, _ => none
  | n + 1, x4, h => fX12_readsIt_l10b (fX12_readsIt_l10 n) x4 h
theorem sX12_readsIt_l10b {rec : Int32 → AH → Option (Int32 × AH)} (hR : ∀ (x4 : Int32) (h : AH), Sim RX12 cX12_readsIt 5 (some .boolean) 4 (Option.map oI) (rec x4 h) 10 [(0, .ref 75), (4, .int x4)] [] h) : ∀ (x4 : Int32) (h : AH), Sim RX12 cX12_readsIt 5 (some .boolean) 4 (Option.map oI) (fX12_readsIt_l10b rec x4 h) 10 [(0, .ref 75), (4, .int x4)] [] h := by
  intro x4 h
  unfold fX12_readsIt_l10b
  refine sim_iload 1 rfl dX12_readsIt_10 ?_
  refine sim_aload_n 0 rfl dX12_readsIt_12 ?_
  refine sim_getI flX12_301 rfl rfl dX12_readsIt_13 ?_
  refine sim_icmp_ge (tgt := 61) dX12_readsIt_16 (by decide) (fun c3 => ?_) (fun c3 => ?_)
  · refine sim_iconst (v := 0) (by decide) dX12_readsIt_61 ?_
    exact sim_zret rfl rfl rfl dX12_readsIt_62
  · refine sim_aload_n 0 rfl dX12_readsIt_19 ?_
    refine sim_getR flX12_77 rfl rfl dX12_readsIt_20 ?_
    refine sim_iload 1 rfl dX12_readsIt_23 ?_
    refine sim_nguard (fun c4 => ?_)
    refine sim_iald rfl c4 dX12_readsIt_25 ?_
    refine sim_bipush (v := 114) (by decide) dX12_readsIt_26 ?_
    refine sim_icmp_ne (tgt := 55) dX12_readsIt_28 (by decide) (fun c5 => ?_) (fun c5 => ?_)
    · refine sim_iinc (v := x4 + 1) (L' := [(4, .int (x4 + 1)), (0, .ref 75)]) 1 rfl rfl rfl (by decide) dX12_readsIt_55 ?_
      refine sim_goto (tgt := 10) dX12_readsIt_58 (by decide) ?_
      refine sim_sub [1, 0] rfl ?_
      exact hR (x4 + 1) h
    · refine sim_aload_n 0 rfl dX12_readsIt_31 ?_
      refine sim_aload_n 0 rfl dX12_readsIt_32 ?_
      refine sim_getR flX12_83 rfl rfl dX12_readsIt_33 ?_
      refine sim_iload 1 rfl dX12_readsIt_36 ?_
      refine sim_nguard (fun c6 => ?_)
      refine sim_iald rfl c6 dX12_readsIt_38 ?_
      refine sim_aload_n 0 rfl dX12_readsIt_39 ?_
      refine sim_getR flX12_86 rfl rfl dX12_readsIt_40 ?_
      refine sim_iload 1 rfl dX12_readsIt_43 ?_
      refine sim_nguard (fun c7 => ?_)
      refine sim_iald rfl c7 dX12_readsIt_45 ?_
      refine sim_bind (fun b8 e9 => ?_)
      refine sim_cV (As := [.int (h.1 100 x4.toNatClampNeg), .int (h.1 101 x4.toNatClampNeg)]) (st := []) (r := (some (.int b8.1))) (h1 := b8.2) (okX12_comesTo (h.1 100 x4.toNatClampNeg) (h.1 101 x4.toNatClampNeg) h b8 e9) (fun _ => rfl) mlX12_308 mtX12_comesTo rfl rfl rfl rfl (Nat.le_of_ble_eq_true rfl) rfl (Nat.le_of_ble_eq_true rfl) dX12_readsIt_46 ?_
      refine sim_iconst (v := 1) (by decide) dX12_readsIt_49 ?_
      refine sim_icmp_ne (tgt := 55) dX12_readsIt_50 (by decide) (fun c10 => ?_) (fun c10 => ?_)
      · refine sim_iinc (v := x4 + 1) (L' := [(4, .int (x4 + 1)), (0, .ref 75)]) 1 rfl rfl rfl (by decide) dX12_readsIt_55 ?_
        refine sim_goto (tgt := 10) dX12_readsIt_58 (by decide) ?_
        refine sim_sub [1, 0] rfl ?_
        exact hR (x4 + 1) b8.2
      · refine sim_iconst (v := 1) (by decide) dX12_readsIt_53 ?_
        exact sim_zret rfl rfl rfl dX12_readsIt_54
theorem sX12_readsIt_l10 : ∀ (n : Nat) (x4 : Int32) (h : AH), Sim RX12 cX12_readsIt 5 (some .boolean) 4 (Option.map oI) (fX12_readsIt_l10 n x4 h) 10 [(0, .ref 75), (4, .int x4)] [] h := by
  intro n
  induction n with
  | zero => intro x4 h; exact sim_none
  | succ n ih => intro x4 h; exact sX12_readsIt_l10b ih x4 h
def fX12_readsIt (p1 : Int32) (p2 : Int32) (p3 : Int32) (h : AH) : Option (Int32 × AH) :=
  (fX12_feels p1 p2 p3 h).bind (fun b1 =>
  fX12_readsIt_l10 fuel0 (0 : Int32) b1)
theorem sX12_readsIt (p1 : Int32) (p2 : Int32) (p3 : Int32) (h : AH) : Sim RX12 cX12_readsIt 5 (some .boolean) 4 (Option.map oI) (fX12_readsIt p1 p2 p3 h) 0 [(0, .ref 75), (1, .int p1), (2, .int p2), (3, .int p3)] [] h := by
  unfold fX12_readsIt
  refine sim_aload_n 0 rfl dX12_readsIt_0 ?_
  refine sim_iload_n 1 rfl dX12_readsIt_1 ?_
  refine sim_iload_n 2 rfl dX12_readsIt_2 ?_
  refine sim_iload_n 3 rfl dX12_readsIt_3 ?_
  refine sim_bind (fun b1 e2 => ?_)
  refine sim_cV (As := [.int p1, .int p2, .int p3]) (st := []) (r := none) (h1 := b1) (okX12_feels p1 p2 p3 h b1 e2) (fun _ => rfl) mlX12_311 mtX12_feels rfl rfl rfl rfl (Nat.le_of_ble_eq_true rfl) rfl (Nat.le_of_ble_eq_true rfl) dX12_readsIt_4 ?_
  refine sim_iconst (v := 0) (by decide) dX12_readsIt_7 ?_
  refine sim_istore (L' := [(4, .int (0 : Int32)), (0, .ref 75), (1, .int p1), (2, .int p2), (3, .int p3)]) rfl (by decide) dX12_readsIt_8 ?_
  refine sim_sub [1, 0] rfl ?_
  refine sX12_readsIt_l10 _ (0 : Int32) b1
theorem okX12_readsIt (p1 : Int32) (p2 : Int32) (p3 : Int32) (h : AH) (b : Int32 × AH) (e : fX12_readsIt p1 p2 p3 h = some b) : Ok yX12_readsIt cX12_readsIt 5 (some .boolean) 4 [.ref 75, .int p1, .int p2, .int p3] h (some (.int b.1), b.2) := ok_of (sX12_readsIt p1 p2 p3 h) (by rw [e]; rfl) (by decide +kernel) (Nat.le_of_ble_eq_true rfl)
def fX12_readBy_l4b (rec : Int32 → Int32 → AH → Option (Int32 × AH)) (x1 : Int32) (x2 : Int32) (x3 : Int32) (h : AH) : Option (Int32 × AH) :=
  if x3 < (h.1 75 2) then
    if x3 < 0 ∨ 20 ≤ x3.toNatClampNeg then none else
    (fX12_readsIt x3 (h.1 77 x3.toNatClampNeg) x1 h).bind (fun b3 =>
    if b3.1 = 0 then
      rec x2 (x3 + 1) b3.2
    else
      letT (x2 ||| (jshl (1 : Int32) x3)) (fun v6 =>
      rec v6 (x3 + 1) b3.2))
  else
    some (x2, h)
def fX12_readBy_l4 (x1 : Int32) : Nat → Int32 → Int32 → AH → Option (Int32 × AH)
  | 0, _, _, _ => none
  | n + 1, x2, x3, h => fX12_readBy_l4b (fX12_readBy_l4 x1 n) x1 x2 x3 h
theorem sX12_readBy_l4b {rec : Int32 → Int32 → AH → Option (Int32 × AH)} {x1 : Int32} (hR : ∀ (x2 : Int32) (x3 : Int32) (h : AH), Sim RX12 cX12_readBy 4 (some .int) 5 (Option.map oI) (rec x2 x3 h) 4 [(0, .ref 75), (1, .int x1), (2, .int x2), (3, .int x3)] [] h) : ∀ (x2 : Int32) (x3 : Int32) (h : AH), Sim RX12 cX12_readBy 4 (some .int) 5 (Option.map oI) (fX12_readBy_l4b rec x1 x2 x3 h) 4 [(0, .ref 75), (1, .int x1), (2, .int x2), (3, .int x3)] [] h := by
  intro x2 x3 h
  unfold fX12_readBy_l4b
  refine sim_iload_n 3 rfl dX12_readBy_4 ?_
  refine sim_aload_n 0 rfl dX12_readBy_5 ?_
  refine sim_getI flX12_145 rfl rfl dX12_readBy_6 ?_
  refine sim_icmp_ge (tgt := 39) dX12_readBy_9 (by decide) (fun c1 => ?_) (fun c1 => ?_)
  · refine sim_iload_n 2 rfl dX12_readBy_39 ?_
    exact sim_iret rfl rfl dX12_readBy_40
  · refine sim_aload_n 0 rfl dX12_readBy_12 ?_
    refine sim_iload_n 3 rfl dX12_readBy_13 ?_
    refine sim_aload_n 0 rfl dX12_readBy_14 ?_
    refine sim_getR flX12_13 rfl rfl dX12_readBy_15 ?_
    refine sim_iload_n 3 rfl dX12_readBy_18 ?_
    refine sim_nguard (fun c2 => ?_)
    refine sim_iald rfl c2 dX12_readBy_19 ?_
    refine sim_iload_n 1 rfl dX12_readBy_20 ?_
    refine sim_bind (fun b3 e4 => ?_)
    refine sim_cV (As := [.int x3, .int (h.1 77 x3.toNatClampNeg), .int x1]) (st := []) (r := (some (.int b3.1))) (h1 := b3.2) (okX12_readsIt x3 (h.1 77 x3.toNatClampNeg) x1 h b3 e4) (fun _ => rfl) mlX12_315 mtX12_readsIt rfl rfl rfl rfl (Nat.le_of_ble_eq_true rfl) rfl (Nat.le_of_ble_eq_true rfl) dX12_readBy_21 ?_
    refine sim_if_eq (tgt := 33) dX12_readBy_24 (by decide) (fun c5 => ?_) (fun c5 => ?_)
    · refine sim_iinc (v := x3 + 1) (L' := [(3, .int (x3 + 1)), (0, .ref 75), (1, .int x1), (2, .int x2)]) 3 rfl rfl rfl (by decide) dX12_readBy_33 ?_
      refine sim_goto (tgt := 4) dX12_readBy_36 (by decide) ?_
      refine sim_sub [1, 2, 3, 0] rfl ?_
      exact hR x2 (x3 + 1) b3.2
    · refine sim_iload_n 2 rfl dX12_readBy_27 ?_
      refine sim_iconst (v := 1) (by decide) dX12_readBy_28 ?_
      refine sim_iload_n 3 rfl dX12_readBy_29 ?_
      refine sim_ishl dX12_readBy_30 ?_
      refine sim_ior dX12_readBy_31 ?_
      refine sim_nmI (fun v6 => ?_)
      refine sim_istore_n (L' := [(2, .int v6), (0, .ref 75), (1, .int x1), (3, .int x3)]) rfl (by decide) dX12_readBy_32 ?_
      refine sim_iinc (v := x3 + 1) (L' := [(3, .int (x3 + 1)), (2, .int v6), (0, .ref 75), (1, .int x1)]) 3 rfl rfl rfl (by decide) dX12_readBy_33 ?_
      refine sim_goto (tgt := 4) dX12_readBy_36 (by decide) ?_
      refine sim_sub [2, 3, 1, 0] rfl ?_
      exact hR v6 (x3 + 1) b3.2
theorem sX12_readBy_l4 {x1 : Int32} : ∀ (n : Nat) (x2 : Int32) (x3 : Int32) (h : AH), Sim RX12 cX12_readBy 4 (some .int) 5 (Option.map oI) (fX12_readBy_l4 x1 n x2 x3 h) 4 [(0, .ref 75), (1, .int x1), (2, .int x2), (3, .int x3)] [] h := by
  intro n
  induction n with
  | zero => intro x2 x3 h; exact sim_none
  | succ n ih => intro x2 x3 h; exact sX12_readBy_l4b ih x2 x3 h
def fX12_readBy (p1 : Int32) (h : AH) : Option (Int32 × AH) :=
  fX12_readBy_l4 p1 fuel0 (0 : Int32) (0 : Int32) h
theorem sX12_readBy (p1 : Int32) (h : AH) : Sim RX12 cX12_readBy 4 (some .int) 5 (Option.map oI) (fX12_readBy p1 h) 0 [(0, .ref 75), (1, .int p1)] [] h := by
  unfold fX12_readBy
  refine sim_iconst (v := 0) (by decide) dX12_readBy_0 ?_
  refine sim_istore_n (L' := [(2, .int (0 : Int32)), (0, .ref 75), (1, .int p1)]) rfl (by decide) dX12_readBy_1 ?_
  refine sim_iconst (v := 0) (by decide) dX12_readBy_2 ?_
  refine sim_istore_n (L' := [(3, .int (0 : Int32)), (2, .int (0 : Int32)), (0, .ref 75), (1, .int p1)]) rfl (by decide) dX12_readBy_3 ?_
  refine sim_sub [2, 3, 1, 0] rfl ?_
  refine sX12_readBy_l4 _ (0 : Int32) (0 : Int32) h
theorem okX12_readBy (p1 : Int32) (h : AH) (b : Int32 × AH) (e : fX12_readBy p1 h = some b) : Ok yX12_readBy cX12_readBy 4 (some .int) 5 [.ref 75, .int p1] h (some (.int b.1), b.2) := ok_of (sX12_readBy p1 h) (by rw [e]; rfl) (by decide +kernel) (Nat.le_of_ble_eq_true rfl)
def fX12_has (p0 : Int32) (p1 : Int32) (h : AH) : Int32 :=
  if ((jshr p0 p1) &&& (1 : Int32)) = (1 : Int32) then
    (1 : Int32)
  else
    (0 : Int32)
theorem sX12_has (p0 : Int32) (p1 : Int32) (h : AH) : Sim RX12 cX12_has 2 (some .boolean) 1 (tI h) (fX12_has p0 p1 h) 0 [(0, .int p0), (1, .int p1)] [] h := by
  unfold fX12_has
  refine sim_iload_n 0 rfl dX12_has_0 ?_
  refine sim_iload_n 1 rfl dX12_has_1 ?_
  refine sim_ishr dX12_has_2 ?_
  refine sim_iconst (v := 1) (by decide) dX12_has_3 ?_
  refine sim_iand dX12_has_4 ?_
  refine sim_iconst (v := 1) (by decide) dX12_has_5 ?_
  refine sim_icmp_ne (tgt := 13) dX12_has_6 (by decide) (fun c1 => ?_) (fun c1 => ?_)
  · refine sim_iconst (v := 0) (by decide) dX12_has_13 ?_
    exact sim_zret rfl rfl rfl dX12_has_14
  · refine sim_iconst (v := 1) (by decide) dX12_has_9 ?_
    refine sim_goto (tgt := 14) dX12_has_10 (by decide) ?_
    exact sim_zret rfl rfl rfl dX12_has_14
theorem okX12_has (p0 : Int32) (p1 : Int32) (h : AH) : Ok yX12_has cX12_has 2 (some .boolean) 1 [.int p0, .int p1] h (some (.int (fX12_has p0 p1 h)), h) := ok_of (sX12_has p0 p1 h) rfl (by decide +kernel) (Nat.le_of_ble_eq_true rfl)
def fX12_byLaw_l2b (rec : Int32 → AH → Option (Int32 × AH)) (K43 : Int32 → AH → Option (Int32 × AH)) (x1 : Int32) (x2 : Int32) (x3 : Int32) (h : AH) : Option (Int32 × AH) :=
  if x3 < (h.1 75 28) then
    if x3 < 0 ∨ 14 ≤ x3.toNatClampNeg then none else
    if (h.1 98 x3.toNatClampNeg) = x1 then
      if x3 < 0 ∨ 14 ≤ x3.toNatClampNeg then none else
      if x3 < 0 ∨ 14 ≤ x3.toNatClampNeg then none else
      (fX12_comesTo (h.1 100 x3.toNatClampNeg) (h.1 101 x3.toNatClampNeg) h).bind (fun b6 =>
      if b6.1 = (1 : Int32) then
        K43 x3 b6.2
      else
        rec (x3 + 1) b6.2)
    else
      rec (x3 + 1) h
  else
    some ((0 : Int32), h)
def fX12_byLaw_l2 (K43 : Int32 → AH → Option (Int32 × AH)) (x1 : Int32) (x2 : Int32) : Nat → Int32 → AH → Option (Int32 × AH)
  | 0, _, _ => none
  | n + 1, x3, h => fX12_byLaw_l2b (fX12_byLaw_l2 K43 x1 x2 n) K43 x1 x2 x3 h
theorem sX12_byLaw_l2b {rec : Int32 → AH → Option (Int32 × AH)} {K43 : Int32 → AH → Option (Int32 × AH)} {x1 : Int32} {x2 : Int32} (hR : ∀ (x3 : Int32) (h : AH), Sim RX12 cX12_byLaw 5 (some .int) 3 (Option.map oI) (rec x3 h) 2 [(0, .ref 75), (1, .int x1), (2, .int x2), (3, .int x3)] [] h) (hK43 : ∀ (y3 : Int32) (g : AH), Sim RX12 cX12_byLaw 5 (some .int) 3 (Option.map oI) (K43 y3 g) 43 [(0, .ref 75), (2, .int x2), (3, .int y3)] [] g) : ∀ (x3 : Int32) (h : AH), Sim RX12 cX12_byLaw 5 (some .int) 3 (Option.map oI) (fX12_byLaw_l2b rec K43 x1 x2 x3 h) 2 [(0, .ref 75), (1, .int x1), (2, .int x2), (3, .int x3)] [] h := by
  intro x3 h
  unfold fX12_byLaw_l2b
  refine sim_iload_n 3 rfl dX12_byLaw_2 ?_
  refine sim_aload_n 0 rfl dX12_byLaw_3 ?_
  refine sim_getI flX12_301 rfl rfl dX12_byLaw_4 ?_
  refine sim_icmp_ge (tgt := 89) dX12_byLaw_7 (by decide) (fun c1 => ?_) (fun c1 => ?_)
  · refine sim_iconst (v := 0) (by decide) dX12_byLaw_89 ?_
    exact sim_iret rfl rfl dX12_byLaw_90
  · refine sim_aload_n 0 rfl dX12_byLaw_10 ?_
    refine sim_getR flX12_77 rfl rfl dX12_byLaw_11 ?_
    refine sim_iload_n 3 rfl dX12_byLaw_14 ?_
    refine sim_nguard (fun c2 => ?_)
    refine sim_iald rfl c2 dX12_byLaw_15 ?_
    refine sim_iload_n 1 rfl dX12_byLaw_16 ?_
    refine sim_icmp_ne (tgt := 83) dX12_byLaw_17 (by decide) (fun c3 => ?_) (fun c3 => ?_)
    · refine sim_iinc (v := x3 + 1) (L' := [(3, .int (x3 + 1)), (0, .ref 75), (1, .int x1), (2, .int x2)]) 3 rfl rfl rfl (by decide) dX12_byLaw_83 ?_
      refine sim_goto (tgt := 2) dX12_byLaw_86 (by decide) ?_
      refine sim_sub [1, 2, 3, 0] rfl ?_
      exact hR (x3 + 1) h
    · refine sim_aload_n 0 rfl dX12_byLaw_20 ?_
      refine sim_aload_n 0 rfl dX12_byLaw_21 ?_
      refine sim_getR flX12_83 rfl rfl dX12_byLaw_22 ?_
      refine sim_iload_n 3 rfl dX12_byLaw_25 ?_
      refine sim_nguard (fun c4 => ?_)
      refine sim_iald rfl c4 dX12_byLaw_26 ?_
      refine sim_aload_n 0 rfl dX12_byLaw_27 ?_
      refine sim_getR flX12_86 rfl rfl dX12_byLaw_28 ?_
      refine sim_iload_n 3 rfl dX12_byLaw_31 ?_
      refine sim_nguard (fun c5 => ?_)
      refine sim_iald rfl c5 dX12_byLaw_32 ?_
      refine sim_bind (fun b6 e7 => ?_)
      refine sim_cV (As := [.int (h.1 100 x3.toNatClampNeg), .int (h.1 101 x3.toNatClampNeg)]) (st := []) (r := (some (.int b6.1))) (h1 := b6.2) (okX12_comesTo (h.1 100 x3.toNatClampNeg) (h.1 101 x3.toNatClampNeg) h b6 e7) (fun _ => rfl) mlX12_308 mtX12_comesTo rfl rfl rfl rfl (Nat.le_of_ble_eq_true rfl) rfl (Nat.le_of_ble_eq_true rfl) dX12_byLaw_33 ?_
      refine sim_iconst (v := 1) (by decide) dX12_byLaw_36 ?_
      refine sim_icmp_eq (tgt := 43) dX12_byLaw_37 (by decide) (fun c8 => ?_) (fun c8 => ?_)
      · refine sim_sub [0, 2, 3] rfl ?_
        exact hK43 x3 b6.2
      · refine sim_goto (tgt := 83) dX12_byLaw_40 (by decide) ?_
        refine sim_iinc (v := x3 + 1) (L' := [(3, .int (x3 + 1)), (0, .ref 75), (1, .int x1), (2, .int x2)]) 3 rfl rfl rfl (by decide) dX12_byLaw_83 ?_
        refine sim_goto (tgt := 2) dX12_byLaw_86 (by decide) ?_
        refine sim_sub [1, 2, 3, 0] rfl ?_
        exact hR (x3 + 1) b6.2
theorem sX12_byLaw_l2 {K43 : Int32 → AH → Option (Int32 × AH)} {x1 : Int32} {x2 : Int32} (hK43 : ∀ (y3 : Int32) (g : AH), Sim RX12 cX12_byLaw 5 (some .int) 3 (Option.map oI) (K43 y3 g) 43 [(0, .ref 75), (2, .int x2), (3, .int y3)] [] g) : ∀ (n : Nat) (x3 : Int32) (h : AH), Sim RX12 cX12_byLaw 5 (some .int) 3 (Option.map oI) (fX12_byLaw_l2 K43 x1 x2 n x3 h) 2 [(0, .ref 75), (1, .int x1), (2, .int x2), (3, .int x3)] [] h := by
  intro n
  induction n with
  | zero => intro x3 h; exact sim_none
  | succ n ih => intro x3 h; exact sX12_byLaw_l2b ih hK43 x3 h
def fX12_byLaw (p1 : Int32) (p2 : Int32) (h : AH) : Option (Int32 × AH) :=
  fX12_byLaw_l2 (fun (y9 : Int32) (g10 : AH) =>
    if y9 < 0 ∨ 14 ≤ y9.toNatClampNeg then none else
    if y9 < 0 ∨ 14 ≤ y9.toNatClampNeg then none else
    (fX12_comesTo (g10.1 99 y9.toNatClampNeg) (g10.1 100 y9.toNatClampNeg) g10).bind (fun b13 =>
    if b13.1 < 0 then
      some ((0 : Int32), b13.2)
    else
      if p2 < b13.1 then
        some (p2, b13.2)
      else
        some (b13.1, b13.2))) p1 p2 fuel0 (0 : Int32) h
theorem sX12_byLaw (p1 : Int32) (p2 : Int32) (h : AH) : Sim RX12 cX12_byLaw 5 (some .int) 3 (Option.map oI) (fX12_byLaw p1 p2 h) 0 [(0, .ref 75), (1, .int p1), (2, .int p2)] [] h := by
  unfold fX12_byLaw
  refine sim_iconst (v := 0) (by decide) dX12_byLaw_0 ?_
  refine sim_istore_n (L' := [(3, .int (0 : Int32)), (0, .ref 75), (1, .int p1), (2, .int p2)]) rfl (by decide) dX12_byLaw_1 ?_
  refine sim_sub [1, 2, 3, 0] rfl ?_
  refine sX12_byLaw_l2 (fun y9 g10 => ?_) _ (0 : Int32) h
  · refine sim_aload_n 0 rfl dX12_byLaw_43 ?_
    refine sim_aload_n 0 rfl dX12_byLaw_44 ?_
    refine sim_getR flX12_80 rfl rfl dX12_byLaw_45 ?_
    refine sim_iload_n 2 rfl dX12_byLaw_48 ?_
    refine sim_nguard (fun c11 => ?_)
    refine sim_iald rfl c11 dX12_byLaw_49 ?_
    refine sim_aload_n 0 rfl dX12_byLaw_50 ?_
    refine sim_getR flX12_83 rfl rfl dX12_byLaw_51 ?_
    refine sim_iload_n 2 rfl dX12_byLaw_54 ?_
    refine sim_nguard (fun c12 => ?_)
    refine sim_iald rfl c12 dX12_byLaw_55 ?_
    refine sim_bind (fun b13 e14 => ?_)
    refine sim_cV (As := [.int (g10.1 99 y9.toNatClampNeg), .int (g10.1 100 y9.toNatClampNeg)]) (st := []) (r := (some (.int b13.1))) (h1 := b13.2) (okX12_comesTo (g10.1 99 y9.toNatClampNeg) (g10.1 100 y9.toNatClampNeg) g10 b13 e14) (fun _ => rfl) mlX12_308 mtX12_comesTo rfl rfl rfl rfl (Nat.le_of_ble_eq_true rfl) rfl (Nat.le_of_ble_eq_true rfl) dX12_byLaw_56 ?_
    refine sim_istore (L' := [(4, .int b13.1), (0, .ref 75), (2, .int p2), (3, .int y9)]) rfl (by decide) dX12_byLaw_59 ?_
    refine sim_iload 0 rfl dX12_byLaw_61 ?_
    refine sim_if_ge (tgt := 70) dX12_byLaw_63 (by decide) (fun c15 => ?_) (fun c15 => ?_)
    · refine sim_iload 0 rfl dX12_byLaw_70 ?_
      refine sim_iload_n 2 rfl dX12_byLaw_72 ?_
      refine sim_icmp_le (tgt := 80) dX12_byLaw_73 (by decide) (fun c16 => ?_) (fun c16 => ?_)
      · refine sim_iload 0 rfl dX12_byLaw_80 ?_
        exact sim_iret rfl rfl dX12_byLaw_82
      · refine sim_iload_n 2 rfl dX12_byLaw_76 ?_
        refine sim_goto (tgt := 82) dX12_byLaw_77 (by decide) ?_
        exact sim_iret rfl rfl dX12_byLaw_82
    · refine sim_iconst (v := 0) (by decide) dX12_byLaw_66 ?_
      refine sim_goto (tgt := 82) dX12_byLaw_67 (by decide) ?_
      exact sim_iret rfl rfl dX12_byLaw_82
theorem okX12_byLaw (p1 : Int32) (p2 : Int32) (h : AH) (b : Int32 × AH) (e : fX12_byLaw p1 p2 h = some b) : Ok yX12_byLaw cX12_byLaw 5 (some .int) 3 [.ref 75, .int p1, .int p2] h (some (.int b.1), b.2) := ok_of (sX12_byLaw p1 p2 h) (by rw [e]; rfl) (by decide +kernel) (Nat.le_of_ble_eq_true rfl)
def fX12_minutesOf (p1 : Int32) (p2 : Int32) (h : AH) : Option (Int32 × AH) :=
  if p1 < 0 ∨ 20 ≤ p1.toNatClampNeg then none else
  (fX12_feels p1 (h.1 77 p1.toNatClampNeg) p2 h).bind (fun b2 =>
  (fX12_byLaw (116 : Int32) (99 : Int32) b2).bind (fun b4 =>
  some (b4.1, b4.2)))
theorem sX12_minutesOf (p1 : Int32) (p2 : Int32) (h : AH) : Sim RX12 cX12_minutesOf 3 (some .int) 4 (Option.map oI) (fX12_minutesOf p1 p2 h) 0 [(0, .ref 75), (1, .int p1), (2, .int p2)] [] h := by
  unfold fX12_minutesOf
  refine sim_aload_n 0 rfl dX12_minutesOf_0 ?_
  refine sim_iload_n 1 rfl dX12_minutesOf_1 ?_
  refine sim_aload_n 0 rfl dX12_minutesOf_2 ?_
  refine sim_getR flX12_13 rfl rfl dX12_minutesOf_3 ?_
  refine sim_iload_n 1 rfl dX12_minutesOf_6 ?_
  refine sim_nguard (fun c1 => ?_)
  refine sim_iald rfl c1 dX12_minutesOf_7 ?_
  refine sim_iload_n 2 rfl dX12_minutesOf_8 ?_
  refine sim_bind (fun b2 e3 => ?_)
  refine sim_cV (As := [.int p1, .int (h.1 77 p1.toNatClampNeg), .int p2]) (st := []) (r := none) (h1 := b2) (okX12_feels p1 (h.1 77 p1.toNatClampNeg) p2 h b2 e3) (fun _ => rfl) mlX12_311 mtX12_feels rfl rfl rfl rfl (Nat.le_of_ble_eq_true rfl) rfl (Nat.le_of_ble_eq_true rfl) dX12_minutesOf_9 ?_
  refine sim_aload_n 0 rfl dX12_minutesOf_12 ?_
  refine sim_bipush (v := 116) (by decide) dX12_minutesOf_13 ?_
  refine sim_bipush (v := 99) (by decide) dX12_minutesOf_15 ?_
  refine sim_bind (fun b4 e5 => ?_)
  refine sim_cV (As := [.int (116 : Int32), .int (99 : Int32)]) (st := []) (r := (some (.int b4.1))) (h1 := b4.2) (okX12_byLaw (116 : Int32) (99 : Int32) b2 b4 e5) (fun _ => rfl) mlX12_318 mtX12_byLaw rfl rfl rfl rfl (Nat.le_of_ble_eq_true rfl) rfl (Nat.le_of_ble_eq_true rfl) dX12_minutesOf_17 ?_
  exact sim_iret rfl rfl dX12_minutesOf_20
theorem okX12_minutesOf (p1 : Int32) (p2 : Int32) (h : AH) (b : Int32 × AH) (e : fX12_minutesOf p1 p2 h = some b) : Ok yX12_minutesOf cX12_minutesOf 3 (some .int) 4 [.ref 75, .int p1, .int p2] h (some (.int b.1), b.2) := ok_of (sX12_minutesOf p1 p2 h) (by rw [e]; rfl) (by decide +kernel) (Nat.le_of_ble_eq_true rfl)
def fX12_reads_l50b (rec : Int32 → Int32 → AH → Option (Int32 × AH)) (x1 : Int32) (x3 : Int32) (x4 : Int32) (x5 : Int32) (h : AH) : Option (Int32 × AH) :=
  if x5 < (h.1 75 2) then
    if (fX12_has x3 x5 h) = 0 then
      letT (x4 + (0 : Int32)) (fun v8 =>
      rec v8 (x5 + 1) h)
    else
      (fX12_minutesOf x5 x1 h).bind (fun b9 =>
      rec (x4 + b9.1) (x5 + 1) b9.2)
  else
    some (x4, h)
def fX12_reads_l50 (x1 : Int32) (x3 : Int32) : Nat → Int32 → Int32 → AH → Option (Int32 × AH)
  | 0, _, _, _ => none
  | n + 1, x4, x5, h => fX12_reads_l50b (fX12_reads_l50 x1 x3 n) x1 x3 x4 x5 h
theorem sX12_reads_l50b {rec : Int32 → Int32 → AH → Option (Int32 × AH)} {x1 : Int32} {x3 : Int32} (hR : ∀ (x4 : Int32) (x5 : Int32) (h : AH), Sim RX12 cX12_reads 6 (some .int) 6 (Option.map oI) (rec x4 x5 h) 50 [(0, .ref 75), (1, .int x1), (3, .int x3), (4, .int x4), (5, .int x5)] [] h) : ∀ (x4 : Int32) (x5 : Int32) (h : AH), Sim RX12 cX12_reads 6 (some .int) 6 (Option.map oI) (fX12_reads_l50b rec x1 x3 x4 x5 h) 50 [(0, .ref 75), (1, .int x1), (3, .int x3), (4, .int x4), (5, .int x5)] [] h := by
  intro x4 x5 h
  unfold fX12_reads_l50b
  refine sim_iload 4 rfl dX12_reads_50 ?_
  refine sim_aload_n 0 rfl dX12_reads_52 ?_
  refine sim_getI flX12_145 rfl rfl dX12_reads_53 ?_
  refine sim_icmp_ge (tgt := 90) dX12_reads_56 (by decide) (fun c6 => ?_) (fun c6 => ?_)
  · refine sim_iload 3 rfl dX12_reads_90 ?_
    exact sim_iret rfl rfl dX12_reads_92
  · refine sim_iload 3 rfl dX12_reads_59 ?_
    refine sim_iload_n 2 rfl dX12_reads_61 ?_
    refine sim_iload 4 rfl dX12_reads_62 ?_
    refine sim_cS (As := [.int x3, .int x5]) (st := [.int x4]) (r := (some (.int (fX12_has x3 x5 h)))) (h1 := h) (okX12_has x3 x5 h) (fun _ => rfl) mlX12_327 mtX12_has rfl (Nat.le_of_ble_eq_true rfl) rfl (Nat.le_of_ble_eq_true rfl) dX12_reads_64 ?_
    refine sim_if_eq (tgt := 80) dX12_reads_67 (by decide) (fun c7 => ?_) (fun c7 => ?_)
    · refine sim_iconst (v := 0) (by decide) dX12_reads_80 ?_
      refine sim_iadd dX12_reads_81 ?_
      refine sim_nmI (fun v8 => ?_)
      refine sim_istore (L' := [(4, .int v8), (0, .ref 75), (1, .int x1), (3, .int x3), (5, .int x5)]) rfl (by decide) dX12_reads_82 ?_
      refine sim_iinc (v := x5 + 1) (L' := [(5, .int (x5 + 1)), (4, .int v8), (0, .ref 75), (1, .int x1), (3, .int x3)]) 4 rfl rfl rfl (by decide) dX12_reads_84 ?_
      refine sim_goto (tgt := 50) dX12_reads_87 (by decide) ?_
      refine sim_sub [2, 3, 4, 1, 0] rfl ?_
      exact hR v8 (x5 + 1) h
    · refine sim_aload_n 0 rfl dX12_reads_70 ?_
      refine sim_iload 4 rfl dX12_reads_71 ?_
      refine sim_iload_n 1 rfl dX12_reads_73 ?_
      refine sim_bind (fun b9 e10 => ?_)
      refine sim_cV (As := [.int x5, .int x1]) (st := [.int x4]) (r := (some (.int b9.1))) (h1 := b9.2) (okX12_minutesOf x5 x1 h b9 e10) (fun _ => rfl) mlX12_330 mtX12_minutesOf rfl rfl rfl rfl (Nat.le_of_ble_eq_true rfl) rfl (Nat.le_of_ble_eq_true rfl) dX12_reads_74 ?_
      refine sim_goto (tgt := 81) dX12_reads_77 (by decide) ?_
      refine sim_iadd dX12_reads_81 ?_
      refine sim_istore (L' := [(4, .int (x4 + b9.1)), (0, .ref 75), (1, .int x1), (3, .int x3), (5, .int x5)]) rfl (by decide) dX12_reads_82 ?_
      refine sim_iinc (v := x5 + 1) (L' := [(5, .int (x5 + 1)), (4, .int (x4 + b9.1)), (0, .ref 75), (1, .int x1), (3, .int x3)]) 4 rfl rfl rfl (by decide) dX12_reads_84 ?_
      refine sim_goto (tgt := 50) dX12_reads_87 (by decide) ?_
      refine sim_sub [2, 3, 4, 1, 0] rfl ?_
      exact hR (x4 + b9.1) (x5 + 1) b9.2
theorem sX12_reads_l50 {x1 : Int32} {x3 : Int32} : ∀ (n : Nat) (x4 : Int32) (x5 : Int32) (h : AH), Sim RX12 cX12_reads 6 (some .int) 6 (Option.map oI) (fX12_reads_l50 x1 x3 n x4 x5 h) 50 [(0, .ref 75), (1, .int x1), (3, .int x3), (4, .int x4), (5, .int x5)] [] h := by
  intro n
  induction n with
  | zero => intro x4 x5 h; exact sim_none
  | succ n ih => intro x4 x5 h; exact sX12_reads_l50b ih x4 x5 h
def fX12_reads (p1 : Int32) (p2 : Int32) (h : AH) : Option (Int32 × AH) :=
  if (fX12_isHearer p1 h) = 0 then
    some ((-1 : Int32), h)
  else
    if (fX12_in p2 (0 : Int32) (2 : Int32) h) = 0 then
      some ((-1 : Int32), h)
    else
      (fX12_readBy p1 h).bind (fun b3 =>
      if p2 < (2 : Int32) then
        if p2 = 0 then
          some (b3.1, b3.2)
        else
          (fX12_wrong b3.2).bind (fun b12 =>
          some (b3.1 &&& b12, b3.2))
      else
        fX12_reads_l50 p1 b3.1 fuel0 (0 : Int32) (0 : Int32) b3.2)
theorem sX12_reads (p1 : Int32) (p2 : Int32) (h : AH) : Sim RX12 cX12_reads 6 (some .int) 6 (Option.map oI) (fX12_reads p1 p2 h) 0 [(0, .ref 75), (1, .int p1), (2, .int p2)] [] h := by
  unfold fX12_reads
  refine sim_iload_n 1 rfl dX12_reads_0 ?_
  refine sim_cS (As := [.int p1]) (st := []) (r := (some (.int (fX12_isHearer p1 h)))) (h1 := h) (okX12_isHearer p1 h) (fun _ => rfl) mlX12_321 mtX12_isHearer rfl (Nat.le_of_ble_eq_true rfl) rfl (Nat.le_of_ble_eq_true rfl) dX12_reads_1 ?_
  refine sim_if_eq (tgt := 16) dX12_reads_4 (by decide) (fun c1 => ?_) (fun c1 => ?_)
  · refine sim_iconst (v := -1) (by decide) dX12_reads_16 ?_
    exact sim_iret rfl rfl dX12_reads_17
  · refine sim_iload_n 2 rfl dX12_reads_7 ?_
    refine sim_iconst (v := 0) (by decide) dX12_reads_8 ?_
    refine sim_iconst (v := 2) (by decide) dX12_reads_9 ?_
    refine sim_cS (As := [.int p2, .int (0 : Int32), .int (2 : Int32)]) (st := []) (r := (some (.int (fX12_in p2 (0 : Int32) (2 : Int32) h)))) (h1 := h) (okX12_in p2 (0 : Int32) (2 : Int32) h) (fun _ => rfl) mlX12_141 mtX12_in rfl (Nat.le_of_ble_eq_true rfl) rfl (Nat.le_of_ble_eq_true rfl) dX12_reads_10 ?_
    refine sim_if_ne (tgt := 18) dX12_reads_13 (by decide) (fun c2 => ?_) (fun c2 => ?_)
    · refine sim_aload_n 0 rfl dX12_reads_18 ?_
      refine sim_iload_n 1 rfl dX12_reads_19 ?_
      refine sim_bind (fun b3 e4 => ?_)
      refine sim_cV (As := [.int p1]) (st := []) (r := (some (.int b3.1))) (h1 := b3.2) (okX12_readBy p1 h b3 e4) (fun _ => rfl) mlX12_324 mtX12_readBy rfl rfl rfl rfl (Nat.le_of_ble_eq_true rfl) rfl (Nat.le_of_ble_eq_true rfl) dX12_reads_20 ?_
      refine sim_istore_n (L' := [(3, .int b3.1), (0, .ref 75), (1, .int p1), (2, .int p2)]) rfl (by decide) dX12_reads_23 ?_
      refine sim_iload_n 3 rfl dX12_reads_24 ?_
      refine sim_iconst (v := 2) (by decide) dX12_reads_25 ?_
      refine sim_icmp_ge (tgt := 44) dX12_reads_26 (by decide) (fun c5 => ?_) (fun c5 => ?_)
      · refine sim_iconst (v := 0) (by decide) dX12_reads_44 ?_
        refine sim_istore (L' := [(4, .int (0 : Int32)), (3, .int b3.1), (0, .ref 75), (1, .int p1), (2, .int p2)]) rfl (by decide) dX12_reads_45 ?_
        refine sim_iconst (v := 0) (by decide) dX12_reads_47 ?_
        refine sim_istore (L' := [(5, .int (0 : Int32)), (4, .int (0 : Int32)), (3, .int b3.1), (0, .ref 75), (1, .int p1), (2, .int p2)]) rfl (by decide) dX12_reads_48 ?_
        refine sim_sub [3, 4, 2, 1, 0] rfl ?_
        refine sX12_reads_l50 _ (0 : Int32) (0 : Int32) b3.2
      · refine sim_iload_n 3 rfl dX12_reads_29 ?_
        refine sim_if_ne (tgt := 37) dX12_reads_30 (by decide) (fun c11 => ?_) (fun c11 => ?_)
        · refine sim_iload_n 0 rfl dX12_reads_37 ?_
          refine sim_aload_n 1 rfl dX12_reads_38 ?_
          refine sim_bind (fun b12 e13 => ?_)
          refine sim_cV (As := []) (st := [.int b3.1]) (r := (some (.int b12))) (h1 := b3.2) (okX12_wrong b3.2 b12 e13) (fun _ => rfl) mlX12_232 mtX12_wrong rfl rfl rfl rfl (Nat.le_of_ble_eq_true rfl) rfl (Nat.le_of_ble_eq_true rfl) dX12_reads_39 ?_
          refine sim_iand dX12_reads_42 ?_
          exact sim_iret rfl rfl dX12_reads_43
        · refine sim_iload_n 0 rfl dX12_reads_33 ?_
          refine sim_goto (tgt := 43) dX12_reads_34 (by decide) ?_
          exact sim_iret rfl rfl dX12_reads_43
    · refine sim_iconst (v := -1) (by decide) dX12_reads_16 ?_
      exact sim_iret rfl rfl dX12_reads_17
theorem okX12_reads (p1 : Int32) (p2 : Int32) (h : AH) (b : Int32 × AH) (e : fX12_reads p1 p2 h = some b) : Ok yX12_reads cX12_reads 6 (some .int) 6 [.ref 75, .int p1, .int p2] h (some (.int b.1), b.2) := ok_of (sX12_reads p1 p2 h) (by rw [e]; rfl) (by decide +kernel) (Nat.le_of_ble_eq_true rfl)
def fX12_findsOf_l6b (rec : Int32 → Int32 → AH → Option (Int32 × AH)) (x1 : Int32) (x2 : Int32) (x3 : Int32) (x4 : Int32) (x5 : Int32) (h : AH) : Option (Int32 × AH) :=
  if x5 < (10 : Int32) then
    if (fX12_has x1 x5 h) = 0 then
      rec x4 (x5 + 1) h
    else
      (fX12_readsIt x2 x3 x5 h).bind (fun b3 =>
      if b3.1 = 0 then
        rec x4 (x5 + 1) b3.2
      else
        letT (x4 + (1 : Int32)) (fun v6 =>
        rec v6 (x5 + 1) b3.2))
  else
    some (x4, h)
def fX12_findsOf_l6 (x1 : Int32) (x2 : Int32) (x3 : Int32) : Nat → Int32 → Int32 → AH → Option (Int32 × AH)
  | 0, _, _, _ => none
  | n + 1, x4, x5, h => fX12_findsOf_l6b (fX12_findsOf_l6 x1 x2 x3 n) x1 x2 x3 x4 x5 h
theorem sX12_findsOf_l6b {rec : Int32 → Int32 → AH → Option (Int32 × AH)} {x1 : Int32} {x2 : Int32} {x3 : Int32} (hR : ∀ (x4 : Int32) (x5 : Int32) (h : AH), Sim RX12 cX12_findsOf 6 (some .int) 5 (Option.map oI) (rec x4 x5 h) 6 [(0, .ref 75), (1, .int x1), (2, .int x2), (3, .int x3), (4, .int x4), (5, .int x5)] [] h) : ∀ (x4 : Int32) (x5 : Int32) (h : AH), Sim RX12 cX12_findsOf 6 (some .int) 5 (Option.map oI) (fX12_findsOf_l6b rec x1 x2 x3 x4 x5 h) 6 [(0, .ref 75), (1, .int x1), (2, .int x2), (3, .int x3), (4, .int x4), (5, .int x5)] [] h := by
  intro x4 x5 h
  unfold fX12_findsOf_l6b
  refine sim_iload 5 rfl dX12_findsOf_6 ?_
  refine sim_bipush (v := 10) (by decide) dX12_findsOf_8 ?_
  refine sim_icmp_ge (tgt := 45) dX12_findsOf_10 (by decide) (fun c1 => ?_) (fun c1 => ?_)
  · refine sim_iload 4 rfl dX12_findsOf_45 ?_
    exact sim_iret rfl rfl dX12_findsOf_47
  · refine sim_iload_n 1 rfl dX12_findsOf_13 ?_
    refine sim_iload 5 rfl dX12_findsOf_14 ?_
    refine sim_cS (As := [.int x1, .int x5]) (st := []) (r := (some (.int (fX12_has x1 x5 h)))) (h1 := h) (okX12_has x1 x5 h) (fun _ => rfl) mlX12_327 mtX12_has rfl (Nat.le_of_ble_eq_true rfl) rfl (Nat.le_of_ble_eq_true rfl) dX12_findsOf_16 ?_
    refine sim_if_eq (tgt := 39) dX12_findsOf_19 (by decide) (fun c2 => ?_) (fun c2 => ?_)
    · refine sim_iinc (v := x5 + 1) (L' := [(5, .int (x5 + 1)), (0, .ref 75), (1, .int x1), (2, .int x2), (3, .int x3), (4, .int x4)]) 5 rfl rfl rfl (by decide) dX12_findsOf_39 ?_
      refine sim_goto (tgt := 6) dX12_findsOf_42 (by decide) ?_
      refine sim_sub [1, 2, 3, 4, 5, 0] rfl ?_
      exact hR x4 (x5 + 1) h
    · refine sim_aload_n 0 rfl dX12_findsOf_22 ?_
      refine sim_iload_n 2 rfl dX12_findsOf_23 ?_
      refine sim_iload_n 3 rfl dX12_findsOf_24 ?_
      refine sim_iload 5 rfl dX12_findsOf_25 ?_
      refine sim_bind (fun b3 e4 => ?_)
      refine sim_cV (As := [.int x2, .int x3, .int x5]) (st := []) (r := (some (.int b3.1))) (h1 := b3.2) (okX12_readsIt x2 x3 x5 h b3 e4) (fun _ => rfl) mlX12_315 mtX12_readsIt rfl rfl rfl rfl (Nat.le_of_ble_eq_true rfl) rfl (Nat.le_of_ble_eq_true rfl) dX12_findsOf_27 ?_
      refine sim_if_eq (tgt := 39) dX12_findsOf_30 (by decide) (fun c5 => ?_) (fun c5 => ?_)
      · refine sim_iinc (v := x5 + 1) (L' := [(5, .int (x5 + 1)), (0, .ref 75), (1, .int x1), (2, .int x2), (3, .int x3), (4, .int x4)]) 5 rfl rfl rfl (by decide) dX12_findsOf_39 ?_
        refine sim_goto (tgt := 6) dX12_findsOf_42 (by decide) ?_
        refine sim_sub [1, 2, 3, 4, 5, 0] rfl ?_
        exact hR x4 (x5 + 1) b3.2
      · refine sim_iload 4 rfl dX12_findsOf_33 ?_
        refine sim_iconst (v := 1) (by decide) dX12_findsOf_35 ?_
        refine sim_iadd dX12_findsOf_36 ?_
        refine sim_nmI (fun v6 => ?_)
        refine sim_istore (L' := [(4, .int v6), (0, .ref 75), (1, .int x1), (2, .int x2), (3, .int x3), (5, .int x5)]) rfl (by decide) dX12_findsOf_37 ?_
        refine sim_iinc (v := x5 + 1) (L' := [(5, .int (x5 + 1)), (4, .int v6), (0, .ref 75), (1, .int x1), (2, .int x2), (3, .int x3)]) 5 rfl rfl rfl (by decide) dX12_findsOf_39 ?_
        refine sim_goto (tgt := 6) dX12_findsOf_42 (by decide) ?_
        refine sim_sub [2, 3, 4, 5, 1, 0] rfl ?_
        exact hR v6 (x5 + 1) b3.2
theorem sX12_findsOf_l6 {x1 : Int32} {x2 : Int32} {x3 : Int32} : ∀ (n : Nat) (x4 : Int32) (x5 : Int32) (h : AH), Sim RX12 cX12_findsOf 6 (some .int) 5 (Option.map oI) (fX12_findsOf_l6 x1 x2 x3 n x4 x5 h) 6 [(0, .ref 75), (1, .int x1), (2, .int x2), (3, .int x3), (4, .int x4), (5, .int x5)] [] h := by
  intro n
  induction n with
  | zero => intro x4 x5 h; exact sim_none
  | succ n ih => intro x4 x5 h; exact sX12_findsOf_l6b ih x4 x5 h
def fX12_findsOf (p1 : Int32) (p2 : Int32) (p3 : Int32) (h : AH) : Option (Int32 × AH) :=
  fX12_findsOf_l6 p1 p2 p3 fuel0 (0 : Int32) (0 : Int32) h
theorem sX12_findsOf (p1 : Int32) (p2 : Int32) (p3 : Int32) (h : AH) : Sim RX12 cX12_findsOf 6 (some .int) 5 (Option.map oI) (fX12_findsOf p1 p2 p3 h) 0 [(0, .ref 75), (1, .int p1), (2, .int p2), (3, .int p3)] [] h := by
  unfold fX12_findsOf
  refine sim_iconst (v := 0) (by decide) dX12_findsOf_0 ?_
  refine sim_istore (L' := [(4, .int (0 : Int32)), (0, .ref 75), (1, .int p1), (2, .int p2), (3, .int p3)]) rfl (by decide) dX12_findsOf_1 ?_
  refine sim_iconst (v := 0) (by decide) dX12_findsOf_3 ?_
  refine sim_istore (L' := [(5, .int (0 : Int32)), (4, .int (0 : Int32)), (0, .ref 75), (1, .int p1), (2, .int p2), (3, .int p3)]) rfl (by decide) dX12_findsOf_4 ?_
  refine sim_sub [2, 3, 4, 5, 1, 0] rfl ?_
  refine sX12_findsOf_l6 _ (0 : Int32) (0 : Int32) h
theorem okX12_findsOf (p1 : Int32) (p2 : Int32) (p3 : Int32) (h : AH) (b : Int32 × AH) (e : fX12_findsOf p1 p2 p3 h = some b) : Ok yX12_findsOf cX12_findsOf 6 (some .int) 5 [.ref 75, .int p1, .int p2, .int p3] h (some (.int b.1), b.2) := ok_of (sX12_findsOf p1 p2 p3 h) (by rw [e]; rfl) (by decide +kernel) (Nat.le_of_ble_eq_true rfl)
def fX12_hidden_l43b (rec : Int32 → Int32 → Int32 → AH → Option (Int32 × AH)) (K125 : Int32 → Int32 → AH → Option (Int32 × AH)) (x1 : Int32) (x2 : Int32) (x3 : Int32) (x4 : Int32) (x5 : Int32) (h : AH) : Option (Int32 × AH) :=
  if x5 < ((h.1 75 2) * (h.1 75 0)) then
    if (h.1 75 0) = 0 then none else
    letT (x5 / (h.1 75 0)) (fun v8 =>
    if (h.1 75 0) = 0 then none else
    if v8 < 0 ∨ 20 ≤ v8.toNatClampNeg then none else
    if (jrem x5 (h.1 75 0)) = (h.1 87 v8.toNatClampNeg) then
      rec x3 x4 (x5 + 1) h
    else
      if (h.1 75 0) = 0 then none else
      (fX12_findsOf x1 v8 (jrem x5 (h.1 75 0)) h).bind (fun b13 =>
      if b13.1 < x4 then
        rec x5 b13.1 (x5 + 1) b13.2
      else
        rec x3 x4 (x5 + 1) b13.2))
  else
    K125 x3 x4 h
def fX12_hidden_l43 (K125 : Int32 → Int32 → AH → Option (Int32 × AH)) (x1 : Int32) (x2 : Int32) : Nat → Int32 → Int32 → Int32 → AH → Option (Int32 × AH)
  | 0, _, _, _, _ => none
  | n + 1, x3, x4, x5, h => fX12_hidden_l43b (fX12_hidden_l43 K125 x1 x2 n) K125 x1 x2 x3 x4 x5 h
theorem sX12_hidden_l43b {rec : Int32 → Int32 → Int32 → AH → Option (Int32 × AH)} {K125 : Int32 → Int32 → AH → Option (Int32 × AH)} {x1 : Int32} {x2 : Int32} (hR : ∀ (x3 : Int32) (x4 : Int32) (x5 : Int32) (h : AH), Sim RX12 cX12_hidden 8 (some .int) 6 (Option.map oI) (rec x3 x4 x5 h) 43 [(0, .ref 75), (1, .int x1), (2, .int x2), (3, .int x3), (4, .int x4), (5, .int x5)] [] h) (hK125 : ∀ (y3 : Int32) (y4 : Int32) (g : AH), Sim RX12 cX12_hidden 8 (some .int) 6 (Option.map oI) (K125 y3 y4 g) 125 [(0, .ref 75), (2, .int x2), (3, .int y3), (4, .int y4)] [] g) : ∀ (x3 : Int32) (x4 : Int32) (x5 : Int32) (h : AH), Sim RX12 cX12_hidden 8 (some .int) 6 (Option.map oI) (fX12_hidden_l43b rec K125 x1 x2 x3 x4 x5 h) 43 [(0, .ref 75), (1, .int x1), (2, .int x2), (3, .int x3), (4, .int x4), (5, .int x5)] [] h := by
  intro x3 x4 x5 h
  unfold fX12_hidden_l43b
  refine sim_iload 5 rfl dX12_hidden_43 ?_
  refine sim_aload_n 0 rfl dX12_hidden_45 ?_
  refine sim_getI flX12_145 rfl rfl dX12_hidden_46 ?_
  refine sim_aload_n 0 rfl dX12_hidden_49 ?_
  refine sim_getI flX12_134 rfl rfl dX12_hidden_50 ?_
  refine sim_imul dX12_hidden_53 ?_
  refine sim_icmp_ge (tgt := 125) dX12_hidden_54 (by decide) (fun c6 => ?_) (fun c6 => ?_)
  · refine sim_sub [0, 2, 3, 4] rfl ?_
    exact hK125 x3 x4 h
  · refine sim_iload 5 rfl dX12_hidden_57 ?_
    refine sim_aload_n 0 rfl dX12_hidden_59 ?_
    refine sim_getI flX12_134 rfl rfl dX12_hidden_60 ?_
    refine sim_nguard (fun c7 => ?_)
    refine sim_idiv c7 dX12_hidden_63 ?_
    refine sim_nmI (fun v8 => ?_)
    refine sim_istore (L' := [(6, .int v8), (0, .ref 75), (1, .int x1), (2, .int x2), (3, .int x3), (4, .int x4), (5, .int x5)]) rfl (by decide) dX12_hidden_64 ?_
    refine sim_iload 6 rfl dX12_hidden_66 ?_
    refine sim_aload_n 1 rfl dX12_hidden_68 ?_
    refine sim_getI flX12_134 rfl rfl dX12_hidden_69 ?_
    refine sim_nguard (fun c9 => ?_)
    refine sim_irem c9 dX12_hidden_72 ?_
    refine sim_aload_n 1 rfl dX12_hidden_73 ?_
    refine sim_getR flX12_44 rfl rfl dX12_hidden_74 ?_
    refine sim_iload 0 rfl dX12_hidden_77 ?_
    refine sim_nguard (fun c10 => ?_)
    refine sim_iald rfl c10 dX12_hidden_79 ?_
    refine sim_icmp_ne (tgt := 86) dX12_hidden_80 (by decide) (fun c11 => ?_) (fun c11 => ?_)
    · refine sim_aload_n 1 rfl dX12_hidden_86 ?_
      refine sim_iload_n 2 rfl dX12_hidden_87 ?_
      refine sim_iload 0 rfl dX12_hidden_88 ?_
      refine sim_iload 6 rfl dX12_hidden_90 ?_
      refine sim_aload_n 1 rfl dX12_hidden_92 ?_
      refine sim_getI flX12_134 rfl rfl dX12_hidden_93 ?_
      refine sim_nguard (fun c12 => ?_)
      refine sim_irem c12 dX12_hidden_96 ?_
      refine sim_bind (fun b13 e14 => ?_)
      refine sim_cV (As := [.int x1, .int v8, .int (jrem x5 (h.1 75 0))]) (st := []) (r := (some (.int b13.1))) (h1 := b13.2) (okX12_findsOf x1 v8 (jrem x5 (h.1 75 0)) h b13 e14) (fun _ => rfl) mlX12_334 mtX12_findsOf rfl rfl rfl rfl (Nat.le_of_ble_eq_true rfl) rfl (Nat.le_of_ble_eq_true rfl) dX12_hidden_97 ?_
      refine sim_istore (L' := [(7, .int b13.1), (6, .int v8), (0, .ref 75), (1, .int x1), (2, .int x2), (3, .int x3), (4, .int x4), (5, .int x5)]) rfl (by decide) dX12_hidden_100 ?_
      refine sim_iload 0 rfl dX12_hidden_102 ?_
      refine sim_iload 6 rfl dX12_hidden_104 ?_
      refine sim_icmp_lt (tgt := 112) dX12_hidden_106 (by decide) (fun c15 => ?_) (fun c15 => ?_)
      · refine sim_iload 0 rfl dX12_hidden_112 ?_
        refine sim_istore (L' := [(4, .int b13.1), (7, .int b13.1), (6, .int v8), (0, .ref 75), (1, .int x1), (2, .int x2), (3, .int x3), (5, .int x5)]) rfl (by decide) dX12_hidden_114 ?_
        refine sim_iload 7 rfl dX12_hidden_116 ?_
        refine sim_istore_n (L' := [(3, .int x5), (4, .int b13.1), (7, .int b13.1), (6, .int v8), (0, .ref 75), (1, .int x1), (2, .int x2), (5, .int x5)]) rfl (by decide) dX12_hidden_118 ?_
        refine sim_iinc (v := x5 + 1) (L' := [(5, .int (x5 + 1)), (3, .int x5), (4, .int b13.1), (7, .int b13.1), (6, .int v8), (0, .ref 75), (1, .int x1), (2, .int x2)]) 7 rfl rfl rfl (by decide) dX12_hidden_119 ?_
        refine sim_goto (tgt := 43) dX12_hidden_122 (by decide) ?_
        refine sim_sub [5, 6, 7, 1, 2, 0] rfl ?_
        exact hR x5 b13.1 (x5 + 1) b13.2
      · refine sim_goto (tgt := 119) dX12_hidden_109 (by decide) ?_
        refine sim_iinc (v := x5 + 1) (L' := [(5, .int (x5 + 1)), (7, .int b13.1), (6, .int v8), (0, .ref 75), (1, .int x1), (2, .int x2), (3, .int x3), (4, .int x4)]) 7 rfl rfl rfl (by decide) dX12_hidden_119 ?_
        refine sim_goto (tgt := 43) dX12_hidden_122 (by decide) ?_
        refine sim_sub [3, 4, 5, 6, 7, 0] rfl ?_
        exact hR x3 x4 (x5 + 1) b13.2
    · refine sim_goto (tgt := 119) dX12_hidden_83 (by decide) ?_
      refine sim_iinc (v := x5 + 1) (L' := [(5, .int (x5 + 1)), (6, .int v8), (0, .ref 75), (1, .int x1), (2, .int x2), (3, .int x3), (4, .int x4)]) 6 rfl rfl rfl (by decide) dX12_hidden_119 ?_
      refine sim_goto (tgt := 43) dX12_hidden_122 (by decide) ?_
      refine sim_sub [2, 3, 4, 5, 6, 0] rfl ?_
      exact hR x3 x4 (x5 + 1) h
theorem sX12_hidden_l43 {K125 : Int32 → Int32 → AH → Option (Int32 × AH)} {x1 : Int32} {x2 : Int32} (hK125 : ∀ (y3 : Int32) (y4 : Int32) (g : AH), Sim RX12 cX12_hidden 8 (some .int) 6 (Option.map oI) (K125 y3 y4 g) 125 [(0, .ref 75), (2, .int x2), (3, .int y3), (4, .int y4)] [] g) : ∀ (n : Nat) (x3 : Int32) (x4 : Int32) (x5 : Int32) (h : AH), Sim RX12 cX12_hidden 8 (some .int) 6 (Option.map oI) (fX12_hidden_l43 K125 x1 x2 n x3 x4 x5 h) 43 [(0, .ref 75), (1, .int x1), (2, .int x2), (3, .int x3), (4, .int x4), (5, .int x5)] [] h := by
  intro n
  induction n with
  | zero => intro x3 x4 x5 h; exact sim_none
  | succ n ih => intro x3 x4 x5 h; exact sX12_hidden_l43b ih hK125 x3 x4 x5 h
def fX12_hidden (p1 : Int32) (p2 : Int32) (h : AH) : Option (Int32 × AH) :=
  if (fX12_in p1 (1 : Int32) (1023 : Int32) h) = 0 then
    some ((-1 : Int32), h)
  else
    if (fX12_in p2 (0 : Int32) (2 : Int32) h) = 0 then
      some ((-1 : Int32), h)
    else
      if (h.1 75 2) = 0 then
        some ((-1 : Int32), h)
      else
        (fX12_laysTruth h).bind (fun b4 =>
        fX12_hidden_l43 (fun (y16 : Int32) (y17 : Int32) (g18 : AH) =>
          if p2 = 0 then
            if (g18.1 75 0) = 0 then none else
            some (y16 / (g18.1 75 0), g18)
          else
            if p2 = (1 : Int32) then
              if (g18.1 75 0) = 0 then none else
              some (jrem y16 (g18.1 75 0), g18)
            else
              some (y17, g18)) p1 p2 fuel0 (0 : Int32) (1000000000 : Int32) (0 : Int32) b4)
theorem sX12_hidden (p1 : Int32) (p2 : Int32) (h : AH) : Sim RX12 cX12_hidden 8 (some .int) 6 (Option.map oI) (fX12_hidden p1 p2 h) 0 [(0, .ref 75), (1, .int p1), (2, .int p2)] [] h := by
  unfold fX12_hidden
  refine sim_iload_n 1 rfl dX12_hidden_0 ?_
  refine sim_iconst (v := 1) (by decide) dX12_hidden_1 ?_
  refine sim_sipush (v := 1023) (by decide) dX12_hidden_2 ?_
  refine sim_cS (As := [.int p1, .int (1 : Int32), .int (1023 : Int32)]) (st := []) (r := (some (.int (fX12_in p1 (1 : Int32) (1023 : Int32) h)))) (h1 := h) (okX12_in p1 (1 : Int32) (1023 : Int32) h) (fun _ => rfl) mlX12_141 mtX12_in rfl (Nat.le_of_ble_eq_true rfl) rfl (Nat.le_of_ble_eq_true rfl) dX12_hidden_5 ?_
  refine sim_if_eq (tgt := 27) dX12_hidden_8 (by decide) (fun c1 => ?_) (fun c1 => ?_)
  · refine sim_iconst (v := -1) (by decide) dX12_hidden_27 ?_
    exact sim_iret rfl rfl dX12_hidden_28
  · refine sim_iload_n 2 rfl dX12_hidden_11 ?_
    refine sim_iconst (v := 0) (by decide) dX12_hidden_12 ?_
    refine sim_iconst (v := 2) (by decide) dX12_hidden_13 ?_
    refine sim_cS (As := [.int p2, .int (0 : Int32), .int (2 : Int32)]) (st := []) (r := (some (.int (fX12_in p2 (0 : Int32) (2 : Int32) h)))) (h1 := h) (okX12_in p2 (0 : Int32) (2 : Int32) h) (fun _ => rfl) mlX12_141 mtX12_in rfl (Nat.le_of_ble_eq_true rfl) rfl (Nat.le_of_ble_eq_true rfl) dX12_hidden_14 ?_
    refine sim_if_eq (tgt := 27) dX12_hidden_17 (by decide) (fun c2 => ?_) (fun c2 => ?_)
    · refine sim_iconst (v := -1) (by decide) dX12_hidden_27 ?_
      exact sim_iret rfl rfl dX12_hidden_28
    · refine sim_aload_n 0 rfl dX12_hidden_20 ?_
      refine sim_getI flX12_145 rfl rfl dX12_hidden_21 ?_
      refine sim_if_ne (tgt := 29) dX12_hidden_24 (by decide) (fun c3 => ?_) (fun c3 => ?_)
      · refine sim_aload_n 0 rfl dX12_hidden_29 ?_
        refine sim_bind (fun b4 e5 => ?_)
        refine sim_cV (As := []) (st := []) (r := none) (h1 := b4) (okX12_laysTruth h b4 e5) (fun _ => rfl) mlX12_212 mtX12_laysTruth rfl rfl rfl rfl (Nat.le_of_ble_eq_true rfl) rfl (Nat.le_of_ble_eq_true rfl) dX12_hidden_30 ?_
        refine sim_iconst (v := 0) (by decide) dX12_hidden_33 ?_
        refine sim_istore_n (L' := [(3, .int (0 : Int32)), (0, .ref 75), (1, .int p1), (2, .int p2)]) rfl (by decide) dX12_hidden_34 ?_
        refine sim_ldcw kcX12_333 dX12_hidden_35 ?_
        refine sim_istore (L' := [(4, .int (1000000000 : Int32)), (3, .int (0 : Int32)), (0, .ref 75), (1, .int p1), (2, .int p2)]) rfl (by decide) dX12_hidden_38 ?_
        refine sim_iconst (v := 0) (by decide) dX12_hidden_40 ?_
        refine sim_istore (L' := [(5, .int (0 : Int32)), (4, .int (1000000000 : Int32)), (3, .int (0 : Int32)), (0, .ref 75), (1, .int p1), (2, .int p2)]) rfl (by decide) dX12_hidden_41 ?_
        refine sim_sub [3, 4, 5, 2, 1, 0] rfl ?_
        refine sX12_hidden_l43 (fun y16 y17 g18 => ?_) _ (0 : Int32) (1000000000 : Int32) (0 : Int32) b4
        · refine sim_iload_n 1 rfl dX12_hidden_125 ?_
          refine sim_if_ne (tgt := 138) dX12_hidden_126 (by decide) (fun c19 => ?_) (fun c19 => ?_)
          · refine sim_iload_n 1 rfl dX12_hidden_138 ?_
            refine sim_iconst (v := 1) (by decide) dX12_hidden_139 ?_
            refine sim_icmp_ne (tgt := 152) dX12_hidden_140 (by decide) (fun c20 => ?_) (fun c20 => ?_)
            · refine sim_iload 3 rfl dX12_hidden_152 ?_
              exact sim_iret rfl rfl dX12_hidden_154
            · refine sim_iload_n 2 rfl dX12_hidden_143 ?_
              refine sim_aload_n 0 rfl dX12_hidden_144 ?_
              refine sim_getI flX12_134 rfl rfl dX12_hidden_145 ?_
              refine sim_nguard (fun c21 => ?_)
              refine sim_irem c21 dX12_hidden_148 ?_
              refine sim_goto (tgt := 154) dX12_hidden_149 (by decide) ?_
              exact sim_iret rfl rfl dX12_hidden_154
          · refine sim_iload_n 2 rfl dX12_hidden_129 ?_
            refine sim_aload_n 0 rfl dX12_hidden_130 ?_
            refine sim_getI flX12_134 rfl rfl dX12_hidden_131 ?_
            refine sim_nguard (fun c22 => ?_)
            refine sim_idiv c22 dX12_hidden_134 ?_
            refine sim_goto (tgt := 154) dX12_hidden_135 (by decide) ?_
            exact sim_iret rfl rfl dX12_hidden_154
      · refine sim_iconst (v := -1) (by decide) dX12_hidden_27 ?_
        exact sim_iret rfl rfl dX12_hidden_28
theorem okX12_hidden (p1 : Int32) (p2 : Int32) (h : AH) (b : Int32 × AH) (e : fX12_hidden p1 p2 h = some b) : Ok yX12_hidden cX12_hidden 8 (some .int) 6 [.ref 75, .int p1, .int p2] h (some (.int b.1), b.2) := ok_of (sX12_hidden p1 p2 h) (by rw [e]; rfl) (by decide +kernel) (Nat.le_of_ble_eq_true rfl)
def fX12_allLines (h : AH) : Int32 :=
  (jshl (1 : Int32) (h.1 75 2)) - (1 : Int32)
theorem sX12_allLines (h : AH) : Sim RX12 cX12_allLines 1 (some .int) 1 (tI h) (fX12_allLines h) 0 [(0, .ref 75)] [] h := by
  unfold fX12_allLines
  refine sim_iconst (v := 1) (by decide) dX12_allLines_0 ?_
  refine sim_aload_n 0 rfl dX12_allLines_1 ?_
  refine sim_getI flX12_145 rfl rfl dX12_allLines_2 ?_
  refine sim_ishl dX12_allLines_5 ?_
  refine sim_iconst (v := 1) (by decide) dX12_allLines_6 ?_
  refine sim_isub dX12_allLines_7 ?_
  exact sim_iret rfl rfl dX12_allLines_8
theorem okX12_allLines (h : AH) : Ok yX12_allLines cX12_allLines 1 (some .int) 1 [.ref 75] h (some (.int (fX12_allLines h)), h) := ok_of (sX12_allLines h) rfl (by decide +kernel) (Nat.le_of_ble_eq_true rfl)
def fX12_unread_l20b (rec : Int32 → Int32 → AH → Option (Int32 × AH)) (x1 : Int32) (x2 : Int32) (x3 : Int32) (h : AH) : Option (Int32 × AH) :=
  if x3 < (10 : Int32) then
    if (fX12_has x1 x3 h) = 0 then
      rec x2 (x3 + 1) h
    else
      (fX12_readBy x3 h).bind (fun b5 =>
      letT (x2 &&& (b5.1 ^^^ (-1 : Int32))) (fun v7 =>
      rec v7 (x3 + 1) b5.2))
  else
    some (x2, h)
def fX12_unread_l20 (x1 : Int32) : Nat → Int32 → Int32 → AH → Option (Int32 × AH)
  | 0, _, _, _ => none
  | n + 1, x2, x3, h => fX12_unread_l20b (fX12_unread_l20 x1 n) x1 x2 x3 h
theorem sX12_unread_l20b {rec : Int32 → Int32 → AH → Option (Int32 × AH)} {x1 : Int32} (hR : ∀ (x2 : Int32) (x3 : Int32) (h : AH), Sim RX12 cX12_unread 4 (some .int) 6 (Option.map oI) (rec x2 x3 h) 20 [(0, .ref 75), (1, .int x1), (2, .int x2), (3, .int x3)] [] h) : ∀ (x2 : Int32) (x3 : Int32) (h : AH), Sim RX12 cX12_unread 4 (some .int) 6 (Option.map oI) (fX12_unread_l20b rec x1 x2 x3 h) 20 [(0, .ref 75), (1, .int x1), (2, .int x2), (3, .int x3)] [] h := by
  intro x2 x3 h
  unfold fX12_unread_l20b
  refine sim_iload_n 3 rfl dX12_unread_20 ?_
  refine sim_bipush (v := 10) (by decide) dX12_unread_21 ?_
  refine sim_icmp_ge (tgt := 50) dX12_unread_23 (by decide) (fun c3 => ?_) (fun c3 => ?_)
  · refine sim_iload_n 2 rfl dX12_unread_50 ?_
    exact sim_iret rfl rfl dX12_unread_51
  · refine sim_iload_n 1 rfl dX12_unread_26 ?_
    refine sim_iload_n 3 rfl dX12_unread_27 ?_
    refine sim_cS (As := [.int x1, .int x3]) (st := []) (r := (some (.int (fX12_has x1 x3 h)))) (h1 := h) (okX12_has x1 x3 h) (fun _ => rfl) mlX12_327 mtX12_has rfl (Nat.le_of_ble_eq_true rfl) rfl (Nat.le_of_ble_eq_true rfl) dX12_unread_28 ?_
    refine sim_if_eq (tgt := 44) dX12_unread_31 (by decide) (fun c4 => ?_) (fun c4 => ?_)
    · refine sim_iinc (v := x3 + 1) (L' := [(3, .int (x3 + 1)), (0, .ref 75), (1, .int x1), (2, .int x2)]) 3 rfl rfl rfl (by decide) dX12_unread_44 ?_
      refine sim_goto (tgt := 20) dX12_unread_47 (by decide) ?_
      refine sim_sub [1, 2, 3, 0] rfl ?_
      exact hR x2 (x3 + 1) h
    · refine sim_iload_n 2 rfl dX12_unread_34 ?_
      refine sim_aload_n 0 rfl dX12_unread_35 ?_
      refine sim_iload_n 3 rfl dX12_unread_36 ?_
      refine sim_bind (fun b5 e6 => ?_)
      refine sim_cV (As := [.int x3]) (st := [.int x2]) (r := (some (.int b5.1))) (h1 := b5.2) (okX12_readBy x3 h b5 e6) (fun _ => rfl) mlX12_324 mtX12_readBy rfl rfl rfl rfl (Nat.le_of_ble_eq_true rfl) rfl (Nat.le_of_ble_eq_true rfl) dX12_unread_37 ?_
      refine sim_iconst (v := -1) (by decide) dX12_unread_40 ?_
      refine sim_ixor dX12_unread_41 ?_
      refine sim_iand dX12_unread_42 ?_
      refine sim_nmI (fun v7 => ?_)
      refine sim_istore_n (L' := [(2, .int v7), (0, .ref 75), (1, .int x1), (3, .int x3)]) rfl (by decide) dX12_unread_43 ?_
      refine sim_iinc (v := x3 + 1) (L' := [(3, .int (x3 + 1)), (2, .int v7), (0, .ref 75), (1, .int x1)]) 3 rfl rfl rfl (by decide) dX12_unread_44 ?_
      refine sim_goto (tgt := 20) dX12_unread_47 (by decide) ?_
      refine sim_sub [2, 3, 1, 0] rfl ?_
      exact hR v7 (x3 + 1) b5.2
theorem sX12_unread_l20 {x1 : Int32} : ∀ (n : Nat) (x2 : Int32) (x3 : Int32) (h : AH), Sim RX12 cX12_unread 4 (some .int) 6 (Option.map oI) (fX12_unread_l20 x1 n x2 x3 h) 20 [(0, .ref 75), (1, .int x1), (2, .int x2), (3, .int x3)] [] h := by
  intro n
  induction n with
  | zero => intro x2 x3 h; exact sim_none
  | succ n ih => intro x2 x3 h; exact sX12_unread_l20b ih x2 x3 h
def fX12_unread (p1 : Int32) (h : AH) : Option (Int32 × AH) :=
  if (fX12_in p1 (0 : Int32) (1023 : Int32) h) = 0 then
    some ((-1 : Int32), h)
  else
    letT (fX12_allLines h) (fun v2 =>
    fX12_unread_l20 p1 fuel0 v2 (0 : Int32) h)
theorem sX12_unread (p1 : Int32) (h : AH) : Sim RX12 cX12_unread 4 (some .int) 6 (Option.map oI) (fX12_unread p1 h) 0 [(0, .ref 75), (1, .int p1)] [] h := by
  unfold fX12_unread
  refine sim_iload_n 1 rfl dX12_unread_0 ?_
  refine sim_iconst (v := 0) (by decide) dX12_unread_1 ?_
  refine sim_sipush (v := 1023) (by decide) dX12_unread_2 ?_
  refine sim_cS (As := [.int p1, .int (0 : Int32), .int (1023 : Int32)]) (st := []) (r := (some (.int (fX12_in p1 (0 : Int32) (1023 : Int32) h)))) (h1 := h) (okX12_in p1 (0 : Int32) (1023 : Int32) h) (fun _ => rfl) mlX12_141 mtX12_in rfl (Nat.le_of_ble_eq_true rfl) rfl (Nat.le_of_ble_eq_true rfl) dX12_unread_5 ?_
  refine sim_if_ne (tgt := 13) dX12_unread_8 (by decide) (fun c1 => ?_) (fun c1 => ?_)
  · refine sim_aload_n 0 rfl dX12_unread_13 ?_
    refine sim_cV (As := []) (st := []) (r := (some (.int (fX12_allLines h)))) (h1 := h) (okX12_allLines h) (fun _ => rfl) mlX12_337 mtX12_allLines rfl rfl rfl rfl (Nat.le_of_ble_eq_true rfl) rfl (Nat.le_of_ble_eq_true rfl) dX12_unread_14 ?_
    refine sim_nmI (fun v2 => ?_)
    refine sim_istore_n (L' := [(2, .int v2), (0, .ref 75), (1, .int p1)]) rfl (by decide) dX12_unread_17 ?_
    refine sim_iconst (v := 0) (by decide) dX12_unread_18 ?_
    refine sim_istore_n (L' := [(3, .int (0 : Int32)), (2, .int v2), (0, .ref 75), (1, .int p1)]) rfl (by decide) dX12_unread_19 ?_
    refine sim_sub [2, 3, 1, 0] rfl ?_
    refine sX12_unread_l20 _ v2 (0 : Int32) h
  · refine sim_iconst (v := -1) (by decide) dX12_unread_11 ?_
    exact sim_iret rfl rfl dX12_unread_12
theorem okX12_unread (p1 : Int32) (h : AH) (b : Int32 × AH) (e : fX12_unread p1 h = some b) : Ok yX12_unread cX12_unread 4 (some .int) 6 [.ref 75, .int p1] h (some (.int b.1), b.2) := ok_of (sX12_unread p1 h) (by rw [e]; rfl) (by decide +kernel) (Nat.le_of_ble_eq_true rfl)
def fX12_together_l4b (rec : Int32 → Int32 → Option Int32) (x1 : Int32) (h : AH) (x2 : Int32) (x3 : Int32) : Option Int32 :=
  if x3 < (10 : Int32) then
    if (fX12_has x1 x3 h) = 0 then
      rec x2 (x3 + 1)
    else
      if x3 < 0 ∨ 10 ≤ x3.toNatClampNeg then none else
      letT (x2 ||| (h.1 104 x3.toNatClampNeg)) (fun v4 =>
      rec v4 (x3 + 1))
  else
    some x2
def fX12_together_l4 (x1 : Int32) (h : AH) : Nat → Int32 → Int32 → Option Int32
  | 0, _, _ => none
  | n + 1, x2, x3 => fX12_together_l4b (fX12_together_l4 x1 h n) x1 h x2 x3
theorem sX12_together_l4b {rec : Int32 → Int32 → Option Int32} {x1 : Int32} {h : AH} (hR : ∀ (x2 : Int32) (x3 : Int32), Sim RX12 cX12_together 4 (some .int) 2 (Option.map (pI h)) (rec x2 x3) 4 [(0, .ref 75), (1, .int x1), (2, .int x2), (3, .int x3)] [] h) : ∀ (x2 : Int32) (x3 : Int32), Sim RX12 cX12_together 4 (some .int) 2 (Option.map (pI h)) (fX12_together_l4b rec x1 h x2 x3) 4 [(0, .ref 75), (1, .int x1), (2, .int x2), (3, .int x3)] [] h := by
  intro x2 x3
  unfold fX12_together_l4b
  refine sim_iload_n 3 rfl dX12_together_4 ?_
  refine sim_bipush (v := 10) (by decide) dX12_together_5 ?_
  refine sim_icmp_ge (tgt := 33) dX12_together_7 (by decide) (fun c1 => ?_) (fun c1 => ?_)
  · refine sim_iload_n 2 rfl dX12_together_33 ?_
    exact sim_iret rfl rfl dX12_together_34
  · refine sim_iload_n 1 rfl dX12_together_10 ?_
    refine sim_iload_n 3 rfl dX12_together_11 ?_
    refine sim_cS (As := [.int x1, .int x3]) (st := []) (r := (some (.int (fX12_has x1 x3 h)))) (h1 := h) (okX12_has x1 x3 h) (fun _ => rfl) mlX12_327 mtX12_has rfl (Nat.le_of_ble_eq_true rfl) rfl (Nat.le_of_ble_eq_true rfl) dX12_together_12 ?_
    refine sim_if_eq (tgt := 27) dX12_together_15 (by decide) (fun c2 => ?_) (fun c2 => ?_)
    · refine sim_iinc (v := x3 + 1) (L' := [(3, .int (x3 + 1)), (0, .ref 75), (1, .int x1), (2, .int x2)]) 3 rfl rfl rfl (by decide) dX12_together_27 ?_
      refine sim_goto (tgt := 4) dX12_together_30 (by decide) ?_
      refine sim_sub [1, 2, 3, 0] rfl ?_
      exact hR x2 (x3 + 1)
    · refine sim_iload_n 2 rfl dX12_together_18 ?_
      refine sim_aload_n 0 rfl dX12_together_19 ?_
      refine sim_getR flX12_95 rfl rfl dX12_together_20 ?_
      refine sim_iload_n 3 rfl dX12_together_23 ?_
      refine sim_nguard (fun c3 => ?_)
      refine sim_iald rfl c3 dX12_together_24 ?_
      refine sim_ior dX12_together_25 ?_
      refine sim_nmI (fun v4 => ?_)
      refine sim_istore_n (L' := [(2, .int v4), (0, .ref 75), (1, .int x1), (3, .int x3)]) rfl (by decide) dX12_together_26 ?_
      refine sim_iinc (v := x3 + 1) (L' := [(3, .int (x3 + 1)), (2, .int v4), (0, .ref 75), (1, .int x1)]) 3 rfl rfl rfl (by decide) dX12_together_27 ?_
      refine sim_goto (tgt := 4) dX12_together_30 (by decide) ?_
      refine sim_sub [2, 3, 1, 0] rfl ?_
      exact hR v4 (x3 + 1)
theorem sX12_together_l4 {x1 : Int32} {h : AH} : ∀ (n : Nat) (x2 : Int32) (x3 : Int32), Sim RX12 cX12_together 4 (some .int) 2 (Option.map (pI h)) (fX12_together_l4 x1 h n x2 x3) 4 [(0, .ref 75), (1, .int x1), (2, .int x2), (3, .int x3)] [] h := by
  intro n
  induction n with
  | zero => intro x2 x3; exact sim_none
  | succ n ih => intro x2 x3; exact sX12_together_l4b ih x2 x3
def fX12_together (p1 : Int32) (h : AH) : Option Int32 :=
  fX12_together_l4 p1 h fuel0 (0 : Int32) (0 : Int32)
theorem sX12_together (p1 : Int32) (h : AH) : Sim RX12 cX12_together 4 (some .int) 2 (Option.map (pI h)) (fX12_together p1 h) 0 [(0, .ref 75), (1, .int p1)] [] h := by
  unfold fX12_together
  refine sim_iconst (v := 0) (by decide) dX12_together_0 ?_
  refine sim_istore_n (L' := [(2, .int (0 : Int32)), (0, .ref 75), (1, .int p1)]) rfl (by decide) dX12_together_1 ?_
  refine sim_iconst (v := 0) (by decide) dX12_together_2 ?_
  refine sim_istore_n (L' := [(3, .int (0 : Int32)), (2, .int (0 : Int32)), (0, .ref 75), (1, .int p1)]) rfl (by decide) dX12_together_3 ?_
  refine sim_sub [2, 3, 1, 0] rfl ?_
  refine sX12_together_l4 _ (0 : Int32) (0 : Int32)
theorem okX12_together (p1 : Int32) (h : AH) (b : Int32) (e : fX12_together p1 h = some b) : Ok yX12_together cX12_together 4 (some .int) 2 [.ref 75, .int p1] h (some (.int b), h) := ok_of (sX12_together p1 h) (by rw [e]; rfl) (by decide +kernel) (Nat.le_of_ble_eq_true rfl)
def fX12_bits_l4b (rec : Int32 → Int32 → Option Int32) (x0 : Int32) (h : AH) (x1 : Int32) (x2 : Int32) : Option Int32 :=
  if x2 < (20 : Int32) then
    letT (x1 + ((jshr x0 x2) &&& (1 : Int32))) (fun v2 =>
    rec v2 (x2 + 1))
  else
    some x1
def fX12_bits_l4 (x0 : Int32) (h : AH) : Nat → Int32 → Int32 → Option Int32
  | 0, _, _ => none
  | n + 1, x1, x2 => fX12_bits_l4b (fX12_bits_l4 x0 h n) x0 h x1 x2
theorem sX12_bits_l4b {rec : Int32 → Int32 → Option Int32} {x0 : Int32} {h : AH} (hR : ∀ (x1 : Int32) (x2 : Int32), Sim RX12 cX12_bits 3 (some .int) 1 (Option.map (pI h)) (rec x1 x2) 4 [(0, .int x0), (1, .int x1), (2, .int x2)] [] h) : ∀ (x1 : Int32) (x2 : Int32), Sim RX12 cX12_bits 3 (some .int) 1 (Option.map (pI h)) (fX12_bits_l4b rec x0 h x1 x2) 4 [(0, .int x0), (1, .int x1), (2, .int x2)] [] h := by
  intro x1 x2
  unfold fX12_bits_l4b
  refine sim_iload_n 2 rfl dX12_bits_4 ?_
  refine sim_bipush (v := 20) (by decide) dX12_bits_5 ?_
  refine sim_icmp_ge (tgt := 24) dX12_bits_7 (by decide) (fun c1 => ?_) (fun c1 => ?_)
  · refine sim_iload_n 1 rfl dX12_bits_24 ?_
    exact sim_iret rfl rfl dX12_bits_25
  · refine sim_iload_n 1 rfl dX12_bits_10 ?_
    refine sim_iload_n 0 rfl dX12_bits_11 ?_
    refine sim_iload_n 2 rfl dX12_bits_12 ?_
    refine sim_ishr dX12_bits_13 ?_
    refine sim_iconst (v := 1) (by decide) dX12_bits_14 ?_
    refine sim_iand dX12_bits_15 ?_
    refine sim_iadd dX12_bits_16 ?_
    refine sim_nmI (fun v2 => ?_)
    refine sim_istore_n (L' := [(1, .int v2), (0, .int x0), (2, .int x2)]) rfl (by decide) dX12_bits_17 ?_
    refine sim_iinc (v := x2 + 1) (L' := [(2, .int (x2 + 1)), (1, .int v2), (0, .int x0)]) 2 rfl rfl rfl (by decide) dX12_bits_18 ?_
    refine sim_goto (tgt := 4) dX12_bits_21 (by decide) ?_
    refine sim_sub [2, 1, 0] rfl ?_
    exact hR v2 (x2 + 1)
theorem sX12_bits_l4 {x0 : Int32} {h : AH} : ∀ (n : Nat) (x1 : Int32) (x2 : Int32), Sim RX12 cX12_bits 3 (some .int) 1 (Option.map (pI h)) (fX12_bits_l4 x0 h n x1 x2) 4 [(0, .int x0), (1, .int x1), (2, .int x2)] [] h := by
  intro n
  induction n with
  | zero => intro x1 x2; exact sim_none
  | succ n ih => intro x1 x2; exact sX12_bits_l4b ih x1 x2
def fX12_bits (p0 : Int32) (h : AH) : Option Int32 :=
  fX12_bits_l4 p0 h fuel0 (0 : Int32) (0 : Int32)
theorem sX12_bits (p0 : Int32) (h : AH) : Sim RX12 cX12_bits 3 (some .int) 1 (Option.map (pI h)) (fX12_bits p0 h) 0 [(0, .int p0)] [] h := by
  unfold fX12_bits
  refine sim_iconst (v := 0) (by decide) dX12_bits_0 ?_
  refine sim_istore_n (L' := [(1, .int (0 : Int32)), (0, .int p0)]) rfl (by decide) dX12_bits_1 ?_
  refine sim_iconst (v := 0) (by decide) dX12_bits_2 ?_
  refine sim_istore_n (L' := [(2, .int (0 : Int32)), (1, .int (0 : Int32)), (0, .int p0)]) rfl (by decide) dX12_bits_3 ?_
  refine sim_sub [2, 1, 0] rfl ?_
  refine sX12_bits_l4 _ (0 : Int32) (0 : Int32)
theorem okX12_bits (p0 : Int32) (h : AH) (b : Int32) (e : fX12_bits p0 h = some b) : Ok yX12_bits cX12_bits 3 (some .int) 1 [.int p0] h (some (.int b), h) := ok_of (sX12_bits p0 h) (by rw [e]; rfl) (by decide +kernel) (Nat.le_of_ble_eq_true rfl)
def fX12_readers_l24b (rec : Int32 → AH → Option (Int32 × AH)) (K47 : AH → Option (Int32 × AH)) (x1 : Int32) (x2 : Int32) (x3 : Int32) (h : AH) : Option (Int32 × AH) :=
  if x3 < (10 : Int32) then
    (fX12_readBy x3 h).bind (fun b4 =>
    if x3 < 0 ∨ 10 ≤ x3.toNatClampNeg then none else
    letT (sI b4.2 104 x3.toNatClampNeg b4.1) (fun g7 =>
    rec (x3 + 1) g7))
  else
    K47 h
def fX12_readers_l24 (K47 : AH → Option (Int32 × AH)) (x1 : Int32) (x2 : Int32) : Nat → Int32 → AH → Option (Int32 × AH)
  | 0, _, _ => none
  | n + 1, x3, h => fX12_readers_l24b (fX12_readers_l24 K47 x1 x2 n) K47 x1 x2 x3 h
theorem sX12_readers_l24b {rec : Int32 → AH → Option (Int32 × AH)} {K47 : AH → Option (Int32 × AH)} {x1 : Int32} {x2 : Int32} (hR : ∀ (x3 : Int32) (h : AH), Sim RX12 cX12_readers 5 (some .int) 6 (Option.map oI) (rec x3 h) 24 [(0, .ref 75), (1, .int x1), (2, .int x2), (3, .int x3)] [] h) (hK47 : ∀ (g : AH), Sim RX12 cX12_readers 5 (some .int) 6 (Option.map oI) (K47 g) 47 [(0, .ref 75), (1, .int x1), (2, .int x2)] [] g) : ∀ (x3 : Int32) (h : AH), Sim RX12 cX12_readers 5 (some .int) 6 (Option.map oI) (fX12_readers_l24b rec K47 x1 x2 x3 h) 24 [(0, .ref 75), (1, .int x1), (2, .int x2), (3, .int x3)] [] h := by
  intro x3 h
  unfold fX12_readers_l24b
  refine sim_iload_n 3 rfl dX12_readers_24 ?_
  refine sim_bipush (v := 10) (by decide) dX12_readers_25 ?_
  refine sim_icmp_ge (tgt := 47) dX12_readers_27 (by decide) (fun c3 => ?_) (fun c3 => ?_)
  · refine sim_sub [0, 1, 2] rfl ?_
    exact hK47 h
  · refine sim_aload_n 0 rfl dX12_readers_30 ?_
    refine sim_getR flX12_95 rfl rfl dX12_readers_31 ?_
    refine sim_iload_n 3 rfl dX12_readers_34 ?_
    refine sim_aload_n 0 rfl dX12_readers_35 ?_
    refine sim_iload_n 3 rfl dX12_readers_36 ?_
    refine sim_bind (fun b4 e5 => ?_)
    refine sim_cV (As := [.int x3]) (st := [.int x3, .ref 104]) (r := (some (.int b4.1))) (h1 := b4.2) (okX12_readBy x3 h b4 e5) (fun _ => rfl) mlX12_324 mtX12_readBy rfl rfl rfl rfl (Nat.le_of_ble_eq_true rfl) rfl (Nat.le_of_ble_eq_true rfl) dX12_readers_37 ?_
    refine sim_nguard (fun c6 => ?_)
    refine sim_iast rfl c6 dX12_readers_40 ?_
    refine sim_nmH (fun g7 => ?_)
    refine sim_iinc (v := x3 + 1) (L' := [(3, .int (x3 + 1)), (0, .ref 75), (1, .int x1), (2, .int x2)]) 3 rfl rfl rfl (by decide) dX12_readers_41 ?_
    refine sim_goto (tgt := 24) dX12_readers_44 (by decide) ?_
    refine sim_sub [1, 2, 3, 0] rfl ?_
    exact hR (x3 + 1) g7
theorem sX12_readers_l24 {K47 : AH → Option (Int32 × AH)} {x1 : Int32} {x2 : Int32} (hK47 : ∀ (g : AH), Sim RX12 cX12_readers 5 (some .int) 6 (Option.map oI) (K47 g) 47 [(0, .ref 75), (1, .int x1), (2, .int x2)] [] g) : ∀ (n : Nat) (x3 : Int32) (h : AH), Sim RX12 cX12_readers 5 (some .int) 6 (Option.map oI) (fX12_readers_l24 K47 x1 x2 n x3 h) 24 [(0, .ref 75), (1, .int x1), (2, .int x2), (3, .int x3)] [] h := by
  intro n
  induction n with
  | zero => intro x3 h; exact sim_none
  | succ n ih => intro x3 h; exact sX12_readers_l24b ih hK47 x3 h
def fX12_readers_l52b (rec : Int32 → Int32 → Option (Int32 × AH)) (K108 : Int32 → Option (Int32 × AH)) (x1 : Int32) (x2 : Int32) (h : AH) (x3 : Int32) (x4 : Int32) : Option (Int32 × AH) :=
  if x4 < (1024 : Int32) then
    if (x4 &&& (x1 ^^^ (-1 : Int32))) = 0 then
      letT ((fX12_together x4 h).bind (fun b12 =>
        if b12 = (fX12_allLines h) then
          rec x4 (x4 + 1)
        else
          rec x3 (x4 + 1))) (fun J11 =>
      if x3 = (-1 : Int32) then
        J11
      else
        (fX12_bits x4 h).bind (fun b16 =>
        (fX12_bits x3 h).bind (fun b18 =>
        if b16 < b18 then
          J11
        else
          rec x3 (x4 + 1))))
    else
      rec x3 (x4 + 1)
  else
    K108 x3
def fX12_readers_l52 (K108 : Int32 → Option (Int32 × AH)) (x1 : Int32) (x2 : Int32) (h : AH) : Nat → Int32 → Int32 → Option (Int32 × AH)
  | 0, _, _ => none
  | n + 1, x3, x4 => fX12_readers_l52b (fX12_readers_l52 K108 x1 x2 h n) K108 x1 x2 h x3 x4
theorem sX12_readers_l52b {rec : Int32 → Int32 → Option (Int32 × AH)} {K108 : Int32 → Option (Int32 × AH)} {x1 : Int32} {x2 : Int32} {h : AH} (hR : ∀ (x3 : Int32) (x4 : Int32), Sim RX12 cX12_readers 5 (some .int) 6 (Option.map oI) (rec x3 x4) 52 [(0, .ref 75), (1, .int x1), (2, .int x2), (3, .int x3), (4, .int x4)] [] h) (hK108 : ∀ (y3 : Int32), Sim RX12 cX12_readers 5 (some .int) 6 (Option.map oI) (K108 y3) 108 [(2, .int x2), (3, .int y3)] [] h) : ∀ (x3 : Int32) (x4 : Int32), Sim RX12 cX12_readers 5 (some .int) 6 (Option.map oI) (fX12_readers_l52b rec K108 x1 x2 h x3 x4) 52 [(0, .ref 75), (1, .int x1), (2, .int x2), (3, .int x3), (4, .int x4)] [] h := by
  intro x3 x4
  unfold fX12_readers_l52b
  refine sim_iload 4 rfl dX12_readers_52 ?_
  refine sim_sipush (v := 1024) (by decide) dX12_readers_54 ?_
  refine sim_icmp_ge (tgt := 108) dX12_readers_57 (by decide) (fun c9 => ?_) (fun c9 => ?_)
  · refine sim_sub [2, 3] rfl ?_
    exact hK108 x3
  · refine sim_iload 4 rfl dX12_readers_60 ?_
    refine sim_iload_n 1 rfl dX12_readers_62 ?_
    refine sim_iconst (v := -1) (by decide) dX12_readers_63 ?_
    refine sim_ixor dX12_readers_64 ?_
    refine sim_iand dX12_readers_65 ?_
    refine sim_if_ne (tgt := 102) dX12_readers_66 (by decide) (fun c10 => ?_) (fun c10 => ?_)
    · refine sim_iinc (v := x4 + 1) (L' := [(4, .int (x4 + 1)), (0, .ref 75), (1, .int x1), (2, .int x2), (3, .int x3)]) 4 rfl rfl rfl (by decide) dX12_readers_102 ?_
      refine sim_goto (tgt := 52) dX12_readers_105 (by decide) ?_
      refine sim_sub [1, 2, 3, 4, 0] rfl ?_
      exact hR x3 (x4 + 1)
    · refine sim_iload_n 3 rfl dX12_readers_69 ?_
      refine sim_iconst (v := -1) (by decide) dX12_readers_70 ?_
      refine sim_letJ (fun J11 => Sim RX12 cX12_readers 5 (some .int) 6 (Option.map oI) (J11) 86 [(0, .ref 75), (1, .int x1), (2, .int x2), (3, .int x3), (4, .int x4)] [] h) (?_) (fun J11 hJ11 => ?_)
      · refine sim_aload_n 0 rfl dX12_readers_86 ?_
        refine sim_iload 4 rfl dX12_readers_87 ?_
        refine sim_bind (fun b12 e13 => ?_)
        refine sim_cV (As := [.int x4]) (st := []) (r := (some (.int b12))) (h1 := h) (okX12_together x4 h b12 e13) (fun _ => rfl) mlX12_343 mtX12_together rfl rfl rfl rfl (Nat.le_of_ble_eq_true rfl) rfl (Nat.le_of_ble_eq_true rfl) dX12_readers_89 ?_
        refine sim_aload_n 0 rfl dX12_readers_92 ?_
        refine sim_cV (As := []) (st := [.int b12]) (r := (some (.int (fX12_allLines h)))) (h1 := h) (okX12_allLines h) (fun _ => rfl) mlX12_337 mtX12_allLines rfl rfl rfl rfl (Nat.le_of_ble_eq_true rfl) rfl (Nat.le_of_ble_eq_true rfl) dX12_readers_93 ?_
        refine sim_icmp_ne (tgt := 102) dX12_readers_96 (by decide) (fun c14 => ?_) (fun c14 => ?_)
        · refine sim_iinc (v := x4 + 1) (L' := [(4, .int (x4 + 1)), (0, .ref 75), (1, .int x1), (2, .int x2), (3, .int x3)]) 4 rfl rfl rfl (by decide) dX12_readers_102 ?_
          refine sim_goto (tgt := 52) dX12_readers_105 (by decide) ?_
          refine sim_sub [1, 2, 3, 4, 0] rfl ?_
          exact hR x3 (x4 + 1)
        · refine sim_iload 4 rfl dX12_readers_99 ?_
          refine sim_istore_n (L' := [(3, .int x4), (0, .ref 75), (1, .int x1), (2, .int x2), (4, .int x4)]) rfl (by decide) dX12_readers_101 ?_
          refine sim_iinc (v := x4 + 1) (L' := [(4, .int (x4 + 1)), (3, .int x4), (0, .ref 75), (1, .int x1), (2, .int x2)]) 4 rfl rfl rfl (by decide) dX12_readers_102 ?_
          refine sim_goto (tgt := 52) dX12_readers_105 (by decide) ?_
          refine sim_sub [2, 3, 4, 1, 0] rfl ?_
          exact hR x4 (x4 + 1)
      refine sim_icmp_eq (tgt := 86) dX12_readers_71 (by decide) (fun c15 => ?_) (fun c15 => ?_)
      · exact hJ11
      · refine sim_iload 4 rfl dX12_readers_74 ?_
        refine sim_bind (fun b16 e17 => ?_)
        refine sim_cS (As := [.int x4]) (st := []) (r := (some (.int b16))) (h1 := h) (okX12_bits x4 h b16 e17) (fun _ => rfl) mlX12_340 mtX12_bits rfl (Nat.le_of_ble_eq_true rfl) rfl (Nat.le_of_ble_eq_true rfl) dX12_readers_76 ?_
        refine sim_iload_n 3 rfl dX12_readers_79 ?_
        refine sim_bind (fun b18 e19 => ?_)
        refine sim_cS (As := [.int x3]) (st := [.int b16]) (r := (some (.int b18))) (h1 := h) (okX12_bits x3 h b18 e19) (fun _ => rfl) mlX12_340 mtX12_bits rfl (Nat.le_of_ble_eq_true rfl) rfl (Nat.le_of_ble_eq_true rfl) dX12_readers_80 ?_
        refine sim_icmp_ge (tgt := 102) dX12_readers_83 (by decide) (fun c20 => ?_) (fun c20 => ?_)
        · refine sim_iinc (v := x4 + 1) (L' := [(4, .int (x4 + 1)), (0, .ref 75), (1, .int x1), (2, .int x2), (3, .int x3)]) 4 rfl rfl rfl (by decide) dX12_readers_102 ?_
          refine sim_goto (tgt := 52) dX12_readers_105 (by decide) ?_
          refine sim_sub [1, 2, 3, 4, 0] rfl ?_
          exact hR x3 (x4 + 1)
        · exact hJ11
theorem sX12_readers_l52 {K108 : Int32 → Option (Int32 × AH)} {x1 : Int32} {x2 : Int32} {h : AH} (hK108 : ∀ (y3 : Int32), Sim RX12 cX12_readers 5 (some .int) 6 (Option.map oI) (K108 y3) 108 [(2, .int x2), (3, .int y3)] [] h) : ∀ (n : Nat) (x3 : Int32) (x4 : Int32), Sim RX12 cX12_readers 5 (some .int) 6 (Option.map oI) (fX12_readers_l52 K108 x1 x2 h n x3 x4) 52 [(0, .ref 75), (1, .int x1), (2, .int x2), (3, .int x3), (4, .int x4)] [] h := by
  intro n
  induction n with
  | zero => intro x3 x4; exact sim_none
  | succ n ih => intro x3 x4; exact sX12_readers_l52b ih hK108 x3 x4
def fX12_readers (p1 : Int32) (p2 : Int32) (h : AH) : Option (Int32 × AH) :=
  if (fX12_in p1 (0 : Int32) (1023 : Int32) h) = 0 then
    some ((-1 : Int32), h)
  else
    if (fX12_in p2 (0 : Int32) (1 : Int32) h) = 0 then
      some ((-1 : Int32), h)
    else
      fX12_readers_l24 (fun (g8 : AH) =>
        fX12_readers_l52 (fun (y21 : Int32) =>
          if y21 = (-1 : Int32) then
            some ((-2 : Int32), g8)
          else
            if p2 = 0 then
              (fX12_bits y21 g8).bind (fun b24 =>
              some (b24, g8))
            else
              some (y21, g8)) p1 p2 g8 fuel0 (-1 : Int32) (0 : Int32)) p1 p2 fuel0 (0 : Int32) h
theorem sX12_readers (p1 : Int32) (p2 : Int32) (h : AH) : Sim RX12 cX12_readers 5 (some .int) 6 (Option.map oI) (fX12_readers p1 p2 h) 0 [(0, .ref 75), (1, .int p1), (2, .int p2)] [] h := by
  unfold fX12_readers
  refine sim_iload_n 1 rfl dX12_readers_0 ?_
  refine sim_iconst (v := 0) (by decide) dX12_readers_1 ?_
  refine sim_sipush (v := 1023) (by decide) dX12_readers_2 ?_
  refine sim_cS (As := [.int p1, .int (0 : Int32), .int (1023 : Int32)]) (st := []) (r := (some (.int (fX12_in p1 (0 : Int32) (1023 : Int32) h)))) (h1 := h) (okX12_in p1 (0 : Int32) (1023 : Int32) h) (fun _ => rfl) mlX12_141 mtX12_in rfl (Nat.le_of_ble_eq_true rfl) rfl (Nat.le_of_ble_eq_true rfl) dX12_readers_5 ?_
  refine sim_if_eq (tgt := 20) dX12_readers_8 (by decide) (fun c1 => ?_) (fun c1 => ?_)
  · refine sim_iconst (v := -1) (by decide) dX12_readers_20 ?_
    exact sim_iret rfl rfl dX12_readers_21
  · refine sim_iload_n 2 rfl dX12_readers_11 ?_
    refine sim_iconst (v := 0) (by decide) dX12_readers_12 ?_
    refine sim_iconst (v := 1) (by decide) dX12_readers_13 ?_
    refine sim_cS (As := [.int p2, .int (0 : Int32), .int (1 : Int32)]) (st := []) (r := (some (.int (fX12_in p2 (0 : Int32) (1 : Int32) h)))) (h1 := h) (okX12_in p2 (0 : Int32) (1 : Int32) h) (fun _ => rfl) mlX12_141 mtX12_in rfl (Nat.le_of_ble_eq_true rfl) rfl (Nat.le_of_ble_eq_true rfl) dX12_readers_14 ?_
    refine sim_if_ne (tgt := 22) dX12_readers_17 (by decide) (fun c2 => ?_) (fun c2 => ?_)
    · refine sim_iconst (v := 0) (by decide) dX12_readers_22 ?_
      refine sim_istore_n (L' := [(3, .int (0 : Int32)), (0, .ref 75), (1, .int p1), (2, .int p2)]) rfl (by decide) dX12_readers_23 ?_
      refine sim_sub [1, 2, 3, 0] rfl ?_
      refine sX12_readers_l24 (fun g8 => ?_) _ (0 : Int32) h
      · refine sim_iconst (v := -1) (by decide) dX12_readers_47 ?_
        refine sim_istore_n (L' := [(3, .int (-1 : Int32)), (0, .ref 75), (1, .int p1), (2, .int p2)]) rfl (by decide) dX12_readers_48 ?_
        refine sim_iconst (v := 0) (by decide) dX12_readers_49 ?_
        refine sim_istore (L' := [(4, .int (0 : Int32)), (3, .int (-1 : Int32)), (0, .ref 75), (1, .int p1), (2, .int p2)]) rfl (by decide) dX12_readers_50 ?_
        refine sim_sub [2, 3, 4, 1, 0] rfl ?_
        refine sX12_readers_l52 (fun y21 => ?_) _ (-1 : Int32) (0 : Int32)
        · refine sim_iload_n 1 rfl dX12_readers_108 ?_
          refine sim_iconst (v := -1) (by decide) dX12_readers_109 ?_
          refine sim_icmp_ne (tgt := 118) dX12_readers_110 (by decide) (fun c22 => ?_) (fun c22 => ?_)
          · refine sim_iload_n 0 rfl dX12_readers_118 ?_
            refine sim_if_ne (tgt := 129) dX12_readers_119 (by decide) (fun c23 => ?_) (fun c23 => ?_)
            · refine sim_iload_n 1 rfl dX12_readers_129 ?_
              exact sim_iret rfl rfl dX12_readers_130
            · refine sim_iload_n 1 rfl dX12_readers_122 ?_
              refine sim_bind (fun b24 e25 => ?_)
              refine sim_cS (As := [.int y21]) (st := []) (r := (some (.int b24))) (h1 := g8) (okX12_bits y21 g8 b24 e25) (fun _ => rfl) mlX12_340 mtX12_bits rfl (Nat.le_of_ble_eq_true rfl) rfl (Nat.le_of_ble_eq_true rfl) dX12_readers_123 ?_
              refine sim_goto (tgt := 130) dX12_readers_126 (by decide) ?_
              exact sim_iret rfl rfl dX12_readers_130
          · refine sim_bipush (v := -2) (by decide) dX12_readers_113 ?_
            refine sim_goto (tgt := 130) dX12_readers_115 (by decide) ?_
            exact sim_iret rfl rfl dX12_readers_130
    · refine sim_iconst (v := -1) (by decide) dX12_readers_20 ?_
      exact sim_iret rfl rfl dX12_readers_21
theorem okX12_readers (p1 : Int32) (p2 : Int32) (h : AH) (b : Int32 × AH) (e : fX12_readers p1 p2 h = some b) : Ok yX12_readers cX12_readers 5 (some .int) 6 [.ref 75, .int p1, .int p2] h (some (.int b.1), b.2) := ok_of (sX12_readers p1 p2 h) (by rw [e]; rfl) (by decide +kernel) (Nat.le_of_ble_eq_true rfl)
end
