noncomputable section
def fX11_isPupil (p0 : Int32) (h : AH) : Int32 :=
  if p0 < 0 then
    (0 : Int32)
  else
    if p0 < (8 : Int32) then
      (1 : Int32)
    else
      (0 : Int32)
theorem sX11_isPupil (p0 : Int32) (h : AH) : Sim RX11 cX11_isPupil 1 (some .boolean) 1 (tI h) (fX11_isPupil p0 h) 0 [(0, .int p0)] [] h := by
  unfold fX11_isPupil
  refine sim_iload_n 0 rfl dX11_isPupil_0 ?_
  refine sim_if_lt (tgt := 14) dX11_isPupil_1 (by decide) (fun c1 => ?_) (fun c1 => ?_)
  · refine sim_iconst (v := 0) (by decide) dX11_isPupil_14 ?_
    exact sim_zret rfl rfl rfl dX11_isPupil_15
  · refine sim_iload_n 0 rfl dX11_isPupil_4 ?_
    refine sim_bipush (v := 8) (by decide) dX11_isPupil_5 ?_
    refine sim_icmp_ge (tgt := 14) dX11_isPupil_7 (by decide) (fun c2 => ?_) (fun c2 => ?_)
    · refine sim_iconst (v := 0) (by decide) dX11_isPupil_14 ?_
      exact sim_zret rfl rfl rfl dX11_isPupil_15
    · refine sim_iconst (v := 1) (by decide) dX11_isPupil_10 ?_
      refine sim_goto (tgt := 15) dX11_isPupil_11 (by decide) ?_
      exact sim_zret rfl rfl rfl dX11_isPupil_15
theorem okX11_isPupil (p0 : Int32) (h : AH) : Ok yX11_isPupil cX11_isPupil 1 (some .boolean) 1 [.int p0] h (some (.int (fX11_isPupil p0 h)), h) := ok_of (sX11_isPupil p0 h) rfl (by decide +kernel) (Nat.le_of_ble_eq_true rfl)
def fX11_corrects (p1 : Int32) (p2 : Int32) (p3 : Int32) (h : AH) : Option (Int32 × AH) :=
  if (fX11_isPupil p1 h) = 0 then
    some ((-1000 : Int32), h)
  else
    if (fX6_holds p2 h) = 0 then
      some ((-1000 : Int32), h)
    else
      if (fX9_isClaim p3 h) = 0 then
        some ((-1000 : Int32), h)
      else
        letT (fun (w4 : Int32) =>
          letT (fun (g6 : AH) =>
            letT (fun (w8 : Int32) =>
              letT ((fX11_at 5 p1 g6) + w8) (fun v10 =>
              letT (fX11_put 5 p1 (fX11_within v10 (-99 : Int32) (99 : Int32) g6) g6) (fun g11 =>
              some (fX11_at 5 p1 g11, g11)))) (fun J9 =>
            if w4 = 0 then
              J9 (-1 : Int32)
            else
              J9 (1 : Int32))) (fun J7 =>
          if w4 = 0 then
            J7 h
          else
            (fX9_slipIn p2 p3 7 h).bind (fun b14 =>
            J7 b14))) (fun J5 =>
        letT (J5 (0 : Int32)) (fun J16 =>
        if (fX9_isWrong p2 h) = 0 then
          J16
        else
          if p3 = (fX9_made p2 7 h) then
            J5 (1 : Int32)
          else
            J16))
theorem sX11_corrects (p1 : Int32) (p2 : Int32) (p3 : Int32) (h : AH) : Sim RX11 cX11_corrects 6 (some .int) 6 (Option.map oI) (fX11_corrects p1 p2 p3 h) 0 [(0, .ref 0), (1, .int p1), (2, .int p2), (3, .int p3)] [] h := by
  unfold fX11_corrects
  refine sim_iload_n 1 rfl dX11_corrects_0 ?_
  refine sim_cS (As := [.int p1]) (st := []) (r := (some (.int (fX11_isPupil p1 h)))) (h1 := h) (okX11_isPupil p1 h) (fun _ => rfl) mlX11_323 mtX11_isPupil rfl (Nat.le_of_ble_eq_true rfl) rfl (Nat.le_of_ble_eq_true rfl) dX11_corrects_1 ?_
  refine sim_if_eq (tgt := 32) dX11_corrects_4 (by decide) (fun c1 => ?_) (fun c1 => ?_)
  · refine sim_sipush (v := -1000) (by decide) dX11_corrects_32 ?_
    exact sim_iret rfl rfl dX11_corrects_35
  · refine sim_aload_n 0 rfl dX11_corrects_7 ?_
    refine sim_getR flX11_19 rfl rfl dX11_corrects_8 ?_
    refine sim_getR flX11_133 rfl rfl dX11_corrects_11 ?_
    refine sim_iload_n 2 rfl dX11_corrects_14 ?_
    refine sim_cV (As := [.int p2]) (st := []) (r := (some (.int (fX6_holds p2 h)))) (h1 := h) (okX6_holds p2 h) (fun _ => rfl) mlX11_155 mtX6_holds rfl rfl rfl rfl (Nat.le_of_ble_eq_true rfl) rfl (Nat.le_of_ble_eq_true rfl) dX11_corrects_15 ?_
    refine sim_if_eq (tgt := 32) dX11_corrects_18 (by decide) (fun c2 => ?_) (fun c2 => ?_)
    · refine sim_sipush (v := -1000) (by decide) dX11_corrects_32 ?_
      exact sim_iret rfl rfl dX11_corrects_35
    · refine sim_aload_n 0 rfl dX11_corrects_21 ?_
      refine sim_getR flX11_19 rfl rfl dX11_corrects_22 ?_
      refine sim_iload_n 3 rfl dX11_corrects_25 ?_
      refine sim_cV (As := [.int p3]) (st := []) (r := (some (.int (fX9_isClaim p3 h)))) (h1 := h) (okX9_isClaim p3 h) (fun _ => rfl) mlX11_105 mtX9_isClaim rfl rfl rfl rfl (Nat.le_of_ble_eq_true rfl) rfl (Nat.le_of_ble_eq_true rfl) dX11_corrects_26 ?_
      refine sim_if_ne (tgt := 36) dX11_corrects_29 (by decide) (fun c3 => ?_) (fun c3 => ?_)
      · refine sim_aload_n 0 rfl dX11_corrects_36 ?_
        refine sim_getR flX11_19 rfl rfl dX11_corrects_37 ?_
        refine sim_iload_n 2 rfl dX11_corrects_40 ?_
        refine sim_cV (As := [.int p2]) (st := []) (r := (some (.int (fX9_isWrong p2 h)))) (h1 := h) (okX9_isWrong p2 h) (fun _ => rfl) mlX11_191 mtX9_isWrong rfl rfl rfl rfl (Nat.le_of_ble_eq_true rfl) rfl (Nat.le_of_ble_eq_true rfl) dX11_corrects_41 ?_
        refine sim_letJ (fun J5 => ∀ (w4 : Int32), Sim RX11 cX11_corrects 6 (some .int) 6 (Option.map oI) (J5 w4) 74 [(0, .ref 0), (1, .int p1), (2, .int p2), (3, .int p3)] [.int w4] h) (fun w4 => ?_) (fun J5 hJ5 => ?_)
        · refine sim_istore (L' := [(4, .int w4), (0, .ref 0), (1, .int p1), (2, .int p2), (3, .int p3)]) rfl (by decide) dX11_corrects_74 ?_
          refine sim_iload 0 rfl dX11_corrects_76 ?_
          refine sim_letJ (fun J7 => ∀ (g6 : AH), Sim RX11 cX11_corrects 6 (some .int) 6 (Option.map oI) (J7 g6) 100 [(0, .ref 0), (1, .int p1), (4, .int w4)] [] g6) (fun g6 => ?_) (fun J7 hJ7 => ?_)
          · refine sim_aload_n 0 rfl dX11_corrects_100 ?_
            refine sim_getR flX11_19 rfl rfl dX11_corrects_101 ?_
            refine sim_getR flX11_326 rfl rfl dX11_corrects_104 ?_
            refine sim_iload_n 1 rfl dX11_corrects_107 ?_
            refine sim_cS (As := [.ref 5, .int p1]) (st := []) (r := (some (.int (fX11_at 5 p1 g6)))) (h1 := g6) (okX11_at 5 rfl p1 g6) (fun _ => rfl) mlX11_164 mtX11_at rfl (Nat.le_of_ble_eq_true rfl) rfl (Nat.le_of_ble_eq_true rfl) dX11_corrects_108 ?_
            refine sim_iload 2 rfl dX11_corrects_111 ?_
            refine sim_letJ (fun J9 => ∀ (w8 : Int32), Sim RX11 cX11_corrects 6 (some .int) 6 (Option.map oI) (J9 w8) 121 [(0, .ref 0), (1, .int p1)] [.int w8, .int (fX11_at 5 p1 g6)] g6) (fun w8 => ?_) (fun J9 hJ9 => ?_)
            · refine sim_iadd dX11_corrects_121 ?_
              refine sim_nmI (fun v10 => ?_)
              refine sim_istore (L' := [(5, .int v10), (0, .ref 0), (1, .int p1)]) rfl (by decide) dX11_corrects_122 ?_
              refine sim_aload_n 1 rfl dX11_corrects_124 ?_
              refine sim_getR flX11_19 rfl rfl dX11_corrects_125 ?_
              refine sim_getR flX11_326 rfl rfl dX11_corrects_128 ?_
              refine sim_iload_n 2 rfl dX11_corrects_131 ?_
              refine sim_iload 0 rfl dX11_corrects_132 ?_
              refine sim_bipush (v := -99) (by decide) dX11_corrects_134 ?_
              refine sim_bipush (v := 99) (by decide) dX11_corrects_136 ?_
              refine sim_cS (As := [.int v10, .int (-99 : Int32), .int (99 : Int32)]) (st := [.int p1, .ref 5]) (r := (some (.int (fX11_within v10 (-99 : Int32) (99 : Int32) g6)))) (h1 := g6) (okX11_within v10 (-99 : Int32) (99 : Int32) g6) (fun _ => rfl) mlX11_329 mtX11_within rfl (Nat.le_of_ble_eq_true rfl) rfl (Nat.le_of_ble_eq_true rfl) dX11_corrects_138 ?_
              refine sim_cS (As := [.ref 5, .int p1, .int (fX11_within v10 (-99 : Int32) (99 : Int32) g6)]) (st := []) (r := none) (h1 := (fX11_put 5 p1 (fX11_within v10 (-99 : Int32) (99 : Int32) g6) g6)) (okX11_put 5 rfl p1 (fX11_within v10 (-99 : Int32) (99 : Int32) g6) g6) (fun _ => rfl) mlX11_112 mtX11_put rfl (Nat.le_of_ble_eq_true rfl) rfl (Nat.le_of_ble_eq_true rfl) dX11_corrects_141 ?_
              refine sim_nmH (fun g11 => ?_)
              refine sim_aload_n 1 rfl dX11_corrects_144 ?_
              refine sim_getR flX11_19 rfl rfl dX11_corrects_145 ?_
              refine sim_getR flX11_326 rfl rfl dX11_corrects_148 ?_
              refine sim_iload_n 2 rfl dX11_corrects_151 ?_
              refine sim_cS (As := [.ref 5, .int p1]) (st := []) (r := (some (.int (fX11_at 5 p1 g11)))) (h1 := g11) (okX11_at 5 rfl p1 g11) (fun _ => rfl) mlX11_164 mtX11_at rfl (Nat.le_of_ble_eq_true rfl) rfl (Nat.le_of_ble_eq_true rfl) dX11_corrects_152 ?_
              exact sim_iret rfl rfl dX11_corrects_155
            refine sim_if_eq (tgt := 120) dX11_corrects_113 (by decide) (fun c12 => ?_) (fun c12 => ?_)
            · refine sim_iconst (v := -1) (by decide) dX11_corrects_120 ?_
              refine sim_sub [0, 1] rfl ?_
              exact hJ9 (-1 : Int32)
            · refine sim_iconst (v := 1) (by decide) dX11_corrects_116 ?_
              refine sim_goto (tgt := 121) dX11_corrects_117 (by decide) ?_
              refine sim_sub [0, 1] rfl ?_
              exact hJ9 (1 : Int32)
          refine sim_if_eq (tgt := 100) dX11_corrects_78 (by decide) (fun c13 => ?_) (fun c13 => ?_)
          · refine sim_sub [1, 2, 0] rfl ?_
            exact hJ7 h
          · refine sim_aload_n 1 rfl dX11_corrects_81 ?_
            refine sim_getR flX11_19 rfl rfl dX11_corrects_82 ?_
            refine sim_iload_n 3 rfl dX11_corrects_85 ?_
            refine sim_iload_n 4 rfl dX11_corrects_86 ?_
            refine sim_aload_n 1 rfl dX11_corrects_87 ?_
            refine sim_getR flX11_19 rfl rfl dX11_corrects_88 ?_
            refine sim_getR flX11_133 rfl rfl dX11_corrects_91 ?_
            refine sim_getR flX11_178 rfl rfl dX11_corrects_94 ?_
            refine sim_bind (fun b14 e15 => ?_)
            refine sim_cV (As := [.int p2, .int p3, .ref 7]) (st := []) (r := none) (h1 := b14) (okX9_slipIn p2 p3 7 rfl h b14 e15) (fun _ => rfl) mlX11_207 mtX9_slipIn rfl rfl rfl rfl (Nat.le_of_ble_eq_true rfl) rfl (Nat.le_of_ble_eq_true rfl) dX11_corrects_97 ?_
            refine sim_sub [1, 2, 0] rfl ?_
            exact hJ7 b14
        refine sim_letJ (fun J16 => Sim RX11 cX11_corrects 6 (some .int) 6 (Option.map oI) (J16) 73 [(0, .ref 0), (1, .int p1), (2, .int p2), (3, .int p3)] [] h) (?_) (fun J16 hJ16 => ?_)
        · refine sim_iconst (v := 0) (by decide) dX11_corrects_73 ?_
          exact hJ5 (0 : Int32)
        refine sim_if_eq (tgt := 73) dX11_corrects_44 (by decide) (fun c17 => ?_) (fun c17 => ?_)
        · exact hJ16
        · refine sim_iload_n 3 rfl dX11_corrects_47 ?_
          refine sim_aload_n 0 rfl dX11_corrects_48 ?_
          refine sim_getR flX11_19 rfl rfl dX11_corrects_49 ?_
          refine sim_iload_n 2 rfl dX11_corrects_52 ?_
          refine sim_aload_n 0 rfl dX11_corrects_53 ?_
          refine sim_getR flX11_19 rfl rfl dX11_corrects_54 ?_
          refine sim_getR flX11_133 rfl rfl dX11_corrects_57 ?_
          refine sim_getR flX11_178 rfl rfl dX11_corrects_60 ?_
          refine sim_cV (As := [.int p2, .ref 7]) (st := [.int p3]) (r := (some (.int (fX9_made p2 7 h)))) (h1 := h) (okX9_made p2 7 rfl h) (fun _ => rfl) mlX11_181 mtX9_made rfl rfl rfl rfl (Nat.le_of_ble_eq_true rfl) rfl (Nat.le_of_ble_eq_true rfl) dX11_corrects_63 ?_
          refine sim_icmp_ne (tgt := 73) dX11_corrects_66 (by decide) (fun c18 => ?_) (fun c18 => ?_)
          · exact hJ16
          · refine sim_iconst (v := 1) (by decide) dX11_corrects_69 ?_
            refine sim_goto (tgt := 74) dX11_corrects_70 (by decide) ?_
            exact hJ5 (1 : Int32)
      · refine sim_sipush (v := -1000) (by decide) dX11_corrects_32 ?_
        exact sim_iret rfl rfl dX11_corrects_35
theorem okX11_corrects (p1 : Int32) (p2 : Int32) (p3 : Int32) (h : AH) (b : Int32 × AH) (e : fX11_corrects p1 p2 p3 h = some b) : Ok yX11_corrects cX11_corrects 6 (some .int) 6 [.ref 0, .int p1, .int p2, .int p3] h (some (.int b.1), b.2) := ok_of (sX11_corrects p1 p2 p3 h) (by rw [e]; rfl) (by decide +kernel) (Nat.le_of_ble_eq_true rfl)
def fX11_points (p1 : Int32) (h : AH) : Int32 :=
  if (fX11_isPupil p1 h) = 0 then
    (-1000 : Int32)
  else
    fX11_at 5 p1 h
theorem sX11_points (p1 : Int32) (h : AH) : Sim RX11 cX11_points 2 (some .int) 2 (tI h) (fX11_points p1 h) 0 [(0, .ref 0), (1, .int p1)] [] h := by
  unfold fX11_points
  refine sim_iload_n 1 rfl dX11_points_0 ?_
  refine sim_cS (As := [.int p1]) (st := []) (r := (some (.int (fX11_isPupil p1 h)))) (h1 := h) (okX11_isPupil p1 h) (fun _ => rfl) mlX11_323 mtX11_isPupil rfl (Nat.le_of_ble_eq_true rfl) rfl (Nat.le_of_ble_eq_true rfl) dX11_points_1 ?_
  refine sim_if_eq (tgt := 21) dX11_points_4 (by decide) (fun c1 => ?_) (fun c1 => ?_)
  · refine sim_sipush (v := -1000) (by decide) dX11_points_21 ?_
    exact sim_iret rfl rfl dX11_points_24
  · refine sim_aload_n 0 rfl dX11_points_7 ?_
    refine sim_getR flX11_19 rfl rfl dX11_points_8 ?_
    refine sim_getR flX11_326 rfl rfl dX11_points_11 ?_
    refine sim_iload_n 1 rfl dX11_points_14 ?_
    refine sim_cS (As := [.ref 5, .int p1]) (st := []) (r := (some (.int (fX11_at 5 p1 h)))) (h1 := h) (okX11_at 5 rfl p1 h) (fun _ => rfl) mlX11_164 mtX11_at rfl (Nat.le_of_ble_eq_true rfl) rfl (Nat.le_of_ble_eq_true rfl) dX11_points_15 ?_
    refine sim_goto (tgt := 24) dX11_points_18 (by decide) ?_
    exact sim_iret rfl rfl dX11_points_24
theorem okX11_points (p1 : Int32) (h : AH) : Ok yX11_points cX11_points 2 (some .int) 2 [.ref 0, .int p1] h (some (.int (fX11_points p1 h)), h) := ok_of (sX11_points p1 h) rfl (by decide +kernel) (Nat.le_of_ble_eq_true rfl)
def fX6_become_1 (h : AH) : Option AH :=
  letT (sI h 17 0 (h.1 6 0)) (fun g1 =>
  (fX11_copyRow 7 18 g1).bind (fun b2 =>
  (fX11_copyRow 8 19 b2).bind (fun b4 =>
  (fX11_copyRow 9 20 b4).bind (fun b6 =>
  (fX11_copyRow 10 21 b6).bind (fun b8 =>
  (fX11_copyRow 11 22 b8).bind (fun b10 =>
  (fX11_copyRow 12 23 b10).bind (fun b12 =>
  (fX11_copyRow 13 24 b12).bind (fun b14 =>
  some b14))))))))
theorem sX6_become_1 (h : AH) : Sim RX6 cX6_become 2 none 2 (Option.map oV) (fX6_become_1 h) 0 [(0, .ref 17), (1, .ref 6)] [] h := by
  unfold fX6_become_1
  refine sim_aload_n 0 rfl dX6_become_0 ?_
  refine sim_aload_n 1 rfl dX6_become_1 ?_
  refine sim_getI flX6_9 rfl rfl dX6_become_2 ?_
  refine sim_putI fpX6_9 rfl rfl rfl rfl dX6_become_5 ?_
  refine sim_nmH (fun g1 => ?_)
  refine sim_aload_n 1 rfl dX6_become_8 ?_
  refine sim_getR flX6_15 rfl rfl dX6_become_9 ?_
  refine sim_aload_n 0 rfl dX6_become_12 ?_
  refine sim_getR flX6_15 rfl rfl dX6_become_13 ?_
  refine sim_bind (fun b2 e3 => ?_)
  refine sim_cS (As := [.ref 7, .ref 18]) (st := []) (r := none) (h1 := b2) (okX11_copyRow 7 rfl 18 rfl g1 b2 e3) (fun _ => rfl) mlX6_37 mtX11_copyRow rfl (Nat.le_of_ble_eq_true rfl) rfl (Nat.le_of_ble_eq_true rfl) dX6_become_16 ?_
  refine sim_aload_n 1 rfl dX6_become_19 ?_
  refine sim_getR flX6_19 rfl rfl dX6_become_20 ?_
  refine sim_aload_n 0 rfl dX6_become_23 ?_
  refine sim_getR flX6_19 rfl rfl dX6_become_24 ?_
  refine sim_bind (fun b4 e5 => ?_)
  refine sim_cS (As := [.ref 8, .ref 19]) (st := []) (r := none) (h1 := b4) (okX11_copyRow 8 rfl 19 rfl b2 b4 e5) (fun _ => rfl) mlX6_37 mtX11_copyRow rfl (Nat.le_of_ble_eq_true rfl) rfl (Nat.le_of_ble_eq_true rfl) dX6_become_27 ?_
  refine sim_aload_n 1 rfl dX6_become_30 ?_
  refine sim_getR flX6_22 rfl rfl dX6_become_31 ?_
  refine sim_aload_n 0 rfl dX6_become_34 ?_
  refine sim_getR flX6_22 rfl rfl dX6_become_35 ?_
  refine sim_bind (fun b6 e7 => ?_)
  refine sim_cS (As := [.ref 9, .ref 20]) (st := []) (r := none) (h1 := b6) (okX11_copyRow 9 rfl 20 rfl b4 b6 e7) (fun _ => rfl) mlX6_37 mtX11_copyRow rfl (Nat.le_of_ble_eq_true rfl) rfl (Nat.le_of_ble_eq_true rfl) dX6_become_38 ?_
  refine sim_aload_n 1 rfl dX6_become_41 ?_
  refine sim_getR flX6_25 rfl rfl dX6_become_42 ?_
  refine sim_aload_n 0 rfl dX6_become_45 ?_
  refine sim_getR flX6_25 rfl rfl dX6_become_46 ?_
  refine sim_bind (fun b8 e9 => ?_)
  refine sim_cS (As := [.ref 10, .ref 21]) (st := []) (r := none) (h1 := b8) (okX11_copyRow 10 rfl 21 rfl b6 b8 e9) (fun _ => rfl) mlX6_37 mtX11_copyRow rfl (Nat.le_of_ble_eq_true rfl) rfl (Nat.le_of_ble_eq_true rfl) dX6_become_49 ?_
  refine sim_aload_n 1 rfl dX6_become_52 ?_
  refine sim_getR flX6_28 rfl rfl dX6_become_53 ?_
  refine sim_aload_n 0 rfl dX6_become_56 ?_
  refine sim_getR flX6_28 rfl rfl dX6_become_57 ?_
  refine sim_bind (fun b10 e11 => ?_)
  refine sim_cS (As := [.ref 11, .ref 22]) (st := []) (r := none) (h1 := b10) (okX11_copyRow 11 rfl 22 rfl b8 b10 e11) (fun _ => rfl) mlX6_37 mtX11_copyRow rfl (Nat.le_of_ble_eq_true rfl) rfl (Nat.le_of_ble_eq_true rfl) dX6_become_60 ?_
  refine sim_aload_n 1 rfl dX6_become_63 ?_
  refine sim_getR flX6_31 rfl rfl dX6_become_64 ?_
  refine sim_aload_n 0 rfl dX6_become_67 ?_
  refine sim_getR flX6_31 rfl rfl dX6_become_68 ?_
  refine sim_bind (fun b12 e13 => ?_)
  refine sim_cS (As := [.ref 12, .ref 23]) (st := []) (r := none) (h1 := b12) (okX11_copyRow 12 rfl 23 rfl b10 b12 e13) (fun _ => rfl) mlX6_37 mtX11_copyRow rfl (Nat.le_of_ble_eq_true rfl) rfl (Nat.le_of_ble_eq_true rfl) dX6_become_71 ?_
  refine sim_aload_n 1 rfl dX6_become_74 ?_
  refine sim_getR flX6_34 rfl rfl dX6_become_75 ?_
  refine sim_aload_n 0 rfl dX6_become_78 ?_
  refine sim_getR flX6_34 rfl rfl dX6_become_79 ?_
  refine sim_bind (fun b14 e15 => ?_)
  refine sim_cS (As := [.ref 13, .ref 24]) (st := []) (r := none) (h1 := b14) (okX11_copyRow 13 rfl 24 rfl b12 b14 e15) (fun _ => rfl) mlX6_37 mtX11_copyRow rfl (Nat.le_of_ble_eq_true rfl) rfl (Nat.le_of_ble_eq_true rfl) dX6_become_82 ?_
  exact sim_vret rfl rfl dX6_become_85
theorem okX6_become_1 (h : AH) (b : AH) (e : fX6_become_1 h = some b) : Ok yX6_become cX6_become 2 none 2 [.ref 17, .ref 6] h (none, b) := ok_of (sX6_become_1 h) (by rw [e]; rfl) (by decide +kernel) (Nat.le_of_ble_eq_true rfl)
def fX9_become (h : AH) : Option AH :=
  letT (sI h 14 0 (h.1 3 0)) (fun g1 =>
  letT (sI g1 14 1 (g1.1 3 1)) (fun g2 =>
  (fX11_copyRow 4 15 g2).bind (fun b3 =>
  (fX11_copyRow 5 16 b3).bind (fun b5 =>
  (fX6_become_1 b5).bind (fun b7 =>
  some b7)))))
theorem sX9_become (h : AH) : Sim RX9 cX9_become 2 none 3 (Option.map oV) (fX9_become h) 0 [(0, .ref 14), (1, .ref 3)] [] h := by
  unfold fX9_become
  refine sim_aload_n 0 rfl dX9_become_0 ?_
  refine sim_aload_n 1 rfl dX9_become_1 ?_
  refine sim_getI flX9_9 rfl rfl dX9_become_2 ?_
  refine sim_putI fpX9_9 rfl rfl rfl rfl dX9_become_5 ?_
  refine sim_nmH (fun g1 => ?_)
  refine sim_aload_n 0 rfl dX9_become_8 ?_
  refine sim_aload_n 1 rfl dX9_become_9 ?_
  refine sim_getI flX9_15 rfl rfl dX9_become_10 ?_
  refine sim_putI fpX9_15 rfl rfl rfl rfl dX9_become_13 ?_
  refine sim_nmH (fun g2 => ?_)
  refine sim_aload_n 1 rfl dX9_become_16 ?_
  refine sim_getR flX9_18 rfl rfl dX9_become_17 ?_
  refine sim_aload_n 0 rfl dX9_become_20 ?_
  refine sim_getR flX9_18 rfl rfl dX9_become_21 ?_
  refine sim_bind (fun b3 e4 => ?_)
  refine sim_cS (As := [.ref 4, .ref 15]) (st := []) (r := none) (h1 := b3) (okX11_copyRow 4 rfl 15 rfl g2 b3 e4) (fun _ => rfl) mlX9_32 mtX11_copyRow rfl (Nat.le_of_ble_eq_true rfl) rfl (Nat.le_of_ble_eq_true rfl) dX9_become_24 ?_
  refine sim_aload_n 1 rfl dX9_become_27 ?_
  refine sim_getR flX9_22 rfl rfl dX9_become_28 ?_
  refine sim_aload_n 0 rfl dX9_become_31 ?_
  refine sim_getR flX9_22 rfl rfl dX9_become_32 ?_
  refine sim_bind (fun b5 e6 => ?_)
  refine sim_cS (As := [.ref 5, .ref 16]) (st := []) (r := none) (h1 := b5) (okX11_copyRow 5 rfl 16 rfl b3 b5 e6) (fun _ => rfl) mlX9_32 mtX11_copyRow rfl (Nat.le_of_ble_eq_true rfl) rfl (Nat.le_of_ble_eq_true rfl) dX9_become_35 ?_
  refine sim_aload_n 0 rfl dX9_become_38 ?_
  refine sim_getR flX9_28 rfl rfl dX9_become_39 ?_
  refine sim_aload_n 1 rfl dX9_become_42 ?_
  refine sim_getR flX9_28 rfl rfl dX9_become_43 ?_
  refine sim_bind (fun b7 e8 => ?_)
  refine sim_cV (As := [.ref 6]) (st := []) (r := none) (h1 := b7) (okX6_become_1 b5 b7 e8) (fun _ => rfl) mlX9_36 mtX6_become rfl rfl rfl rfl (Nat.le_of_ble_eq_true rfl) rfl (Nat.le_of_ble_eq_true rfl) dX9_become_46 ?_
  exact sim_vret rfl rfl dX9_become_49
theorem okX9_become (h : AH) (b : AH) (e : fX9_become h = some b) : Ok yX9_become cX9_become 2 none 3 [.ref 14, .ref 3] h (none, b) := ok_of (sX9_become h) (by rw [e]; rfl) (by decide +kernel) (Nat.le_of_ble_eq_true rfl)
def fX11_keep (h : AH) : Option (Int32 × AH) :=
  (fX9_become h).bind (fun b1 =>
  letT (sI b1 0 3 (1 : Int32)) (fun g3 =>
  some (g3.1 6 0, g3)))
theorem sX11_keep (h : AH) : Sim RX11 cX11_keep 1 (some .int) 4 (Option.map oI) (fX11_keep h) 0 [(0, .ref 0)] [] h := by
  unfold fX11_keep
  refine sim_aload_n 0 rfl dX11_keep_0 ?_
  refine sim_getR flX11_23 rfl rfl dX11_keep_1 ?_
  refine sim_aload_n 0 rfl dX11_keep_4 ?_
  refine sim_getR flX11_19 rfl rfl dX11_keep_5 ?_
  refine sim_bind (fun b1 e2 => ?_)
  refine sim_cV (As := [.ref 3]) (st := []) (r := none) (h1 := b1) (okX9_become h b1 e2) (fun _ => rfl) mlX11_332 mtX9_become rfl rfl rfl rfl (Nat.le_of_ble_eq_true rfl) rfl (Nat.le_of_ble_eq_true rfl) dX11_keep_8 ?_
  refine sim_aload_n 0 rfl dX11_keep_11 ?_
  refine sim_iconst (v := 1) (by decide) dX11_keep_12 ?_
  refine sim_putI fpX11_26 rfl rfl rfl rfl dX11_keep_13 ?_
  refine sim_nmH (fun g3 => ?_)
  refine sim_aload_n 0 rfl dX11_keep_16 ?_
  refine sim_getR flX11_19 rfl rfl dX11_keep_17 ?_
  refine sim_getR flX11_133 rfl rfl dX11_keep_20 ?_
  refine sim_getI flX11_198 rfl rfl dX11_keep_23 ?_
  exact sim_iret rfl rfl dX11_keep_26
theorem okX11_keep (h : AH) (b : Int32 × AH) (e : fX11_keep h = some b) : Ok yX11_keep cX11_keep 1 (some .int) 4 [.ref 0] h (some (.int b.1), b.2) := ok_of (sX11_keep h) (by rw [e]; rfl) (by decide +kernel) (Nat.le_of_ble_eq_true rfl)
def fX6_become_2 (h : AH) : Option AH :=
  letT (sI h 6 0 (h.1 17 0)) (fun g1 =>
  (fX11_copyRow 18 7 g1).bind (fun b2 =>
  (fX11_copyRow 19 8 b2).bind (fun b4 =>
  (fX11_copyRow 20 9 b4).bind (fun b6 =>
  (fX11_copyRow 21 10 b6).bind (fun b8 =>
  (fX11_copyRow 22 11 b8).bind (fun b10 =>
  (fX11_copyRow 23 12 b10).bind (fun b12 =>
  (fX11_copyRow 24 13 b12).bind (fun b14 =>
  some b14))))))))
theorem sX6_become_2 (h : AH) : Sim RX6 cX6_become 2 none 2 (Option.map oV) (fX6_become_2 h) 0 [(0, .ref 6), (1, .ref 17)] [] h := by
  unfold fX6_become_2
  refine sim_aload_n 0 rfl dX6_become_0 ?_
  refine sim_aload_n 1 rfl dX6_become_1 ?_
  refine sim_getI flX6_9 rfl rfl dX6_become_2 ?_
  refine sim_putI fpX6_9 rfl rfl rfl rfl dX6_become_5 ?_
  refine sim_nmH (fun g1 => ?_)
  refine sim_aload_n 1 rfl dX6_become_8 ?_
  refine sim_getR flX6_15 rfl rfl dX6_become_9 ?_
  refine sim_aload_n 0 rfl dX6_become_12 ?_
  refine sim_getR flX6_15 rfl rfl dX6_become_13 ?_
  refine sim_bind (fun b2 e3 => ?_)
  refine sim_cS (As := [.ref 18, .ref 7]) (st := []) (r := none) (h1 := b2) (okX11_copyRow 18 rfl 7 rfl g1 b2 e3) (fun _ => rfl) mlX6_37 mtX11_copyRow rfl (Nat.le_of_ble_eq_true rfl) rfl (Nat.le_of_ble_eq_true rfl) dX6_become_16 ?_
  refine sim_aload_n 1 rfl dX6_become_19 ?_
  refine sim_getR flX6_19 rfl rfl dX6_become_20 ?_
  refine sim_aload_n 0 rfl dX6_become_23 ?_
  refine sim_getR flX6_19 rfl rfl dX6_become_24 ?_
  refine sim_bind (fun b4 e5 => ?_)
  refine sim_cS (As := [.ref 19, .ref 8]) (st := []) (r := none) (h1 := b4) (okX11_copyRow 19 rfl 8 rfl b2 b4 e5) (fun _ => rfl) mlX6_37 mtX11_copyRow rfl (Nat.le_of_ble_eq_true rfl) rfl (Nat.le_of_ble_eq_true rfl) dX6_become_27 ?_
  refine sim_aload_n 1 rfl dX6_become_30 ?_
  refine sim_getR flX6_22 rfl rfl dX6_become_31 ?_
  refine sim_aload_n 0 rfl dX6_become_34 ?_
  refine sim_getR flX6_22 rfl rfl dX6_become_35 ?_
  refine sim_bind (fun b6 e7 => ?_)
  refine sim_cS (As := [.ref 20, .ref 9]) (st := []) (r := none) (h1 := b6) (okX11_copyRow 20 rfl 9 rfl b4 b6 e7) (fun _ => rfl) mlX6_37 mtX11_copyRow rfl (Nat.le_of_ble_eq_true rfl) rfl (Nat.le_of_ble_eq_true rfl) dX6_become_38 ?_
  refine sim_aload_n 1 rfl dX6_become_41 ?_
  refine sim_getR flX6_25 rfl rfl dX6_become_42 ?_
  refine sim_aload_n 0 rfl dX6_become_45 ?_
  refine sim_getR flX6_25 rfl rfl dX6_become_46 ?_
  refine sim_bind (fun b8 e9 => ?_)
  refine sim_cS (As := [.ref 21, .ref 10]) (st := []) (r := none) (h1 := b8) (okX11_copyRow 21 rfl 10 rfl b6 b8 e9) (fun _ => rfl) mlX6_37 mtX11_copyRow rfl (Nat.le_of_ble_eq_true rfl) rfl (Nat.le_of_ble_eq_true rfl) dX6_become_49 ?_
  refine sim_aload_n 1 rfl dX6_become_52 ?_
  refine sim_getR flX6_28 rfl rfl dX6_become_53 ?_
  refine sim_aload_n 0 rfl dX6_become_56 ?_
  refine sim_getR flX6_28 rfl rfl dX6_become_57 ?_
  refine sim_bind (fun b10 e11 => ?_)
  refine sim_cS (As := [.ref 22, .ref 11]) (st := []) (r := none) (h1 := b10) (okX11_copyRow 22 rfl 11 rfl b8 b10 e11) (fun _ => rfl) mlX6_37 mtX11_copyRow rfl (Nat.le_of_ble_eq_true rfl) rfl (Nat.le_of_ble_eq_true rfl) dX6_become_60 ?_
  refine sim_aload_n 1 rfl dX6_become_63 ?_
  refine sim_getR flX6_31 rfl rfl dX6_become_64 ?_
  refine sim_aload_n 0 rfl dX6_become_67 ?_
  refine sim_getR flX6_31 rfl rfl dX6_become_68 ?_
  refine sim_bind (fun b12 e13 => ?_)
  refine sim_cS (As := [.ref 23, .ref 12]) (st := []) (r := none) (h1 := b12) (okX11_copyRow 23 rfl 12 rfl b10 b12 e13) (fun _ => rfl) mlX6_37 mtX11_copyRow rfl (Nat.le_of_ble_eq_true rfl) rfl (Nat.le_of_ble_eq_true rfl) dX6_become_71 ?_
  refine sim_aload_n 1 rfl dX6_become_74 ?_
  refine sim_getR flX6_34 rfl rfl dX6_become_75 ?_
  refine sim_aload_n 0 rfl dX6_become_78 ?_
  refine sim_getR flX6_34 rfl rfl dX6_become_79 ?_
  refine sim_bind (fun b14 e15 => ?_)
  refine sim_cS (As := [.ref 24, .ref 13]) (st := []) (r := none) (h1 := b14) (okX11_copyRow 24 rfl 13 rfl b12 b14 e15) (fun _ => rfl) mlX6_37 mtX11_copyRow rfl (Nat.le_of_ble_eq_true rfl) rfl (Nat.le_of_ble_eq_true rfl) dX6_become_82 ?_
  exact sim_vret rfl rfl dX6_become_85
theorem okX6_become_2 (h : AH) (b : AH) (e : fX6_become_2 h = some b) : Ok yX6_become cX6_become 2 none 2 [.ref 6, .ref 17] h (none, b) := ok_of (sX6_become_2 h) (by rw [e]; rfl) (by decide +kernel) (Nat.le_of_ble_eq_true rfl)
def fX9_become_1 (h : AH) : Option AH :=
  letT (sI h 3 0 (h.1 14 0)) (fun g1 =>
  letT (sI g1 3 1 (g1.1 14 1)) (fun g2 =>
  (fX11_copyRow 15 4 g2).bind (fun b3 =>
  (fX11_copyRow 16 5 b3).bind (fun b5 =>
  (fX6_become_2 b5).bind (fun b7 =>
  some b7)))))
theorem sX9_become_1 (h : AH) : Sim RX9 cX9_become 2 none 3 (Option.map oV) (fX9_become_1 h) 0 [(0, .ref 3), (1, .ref 14)] [] h := by
  unfold fX9_become_1
  refine sim_aload_n 0 rfl dX9_become_0 ?_
  refine sim_aload_n 1 rfl dX9_become_1 ?_
  refine sim_getI flX9_9 rfl rfl dX9_become_2 ?_
  refine sim_putI fpX9_9 rfl rfl rfl rfl dX9_become_5 ?_
  refine sim_nmH (fun g1 => ?_)
  refine sim_aload_n 0 rfl dX9_become_8 ?_
  refine sim_aload_n 1 rfl dX9_become_9 ?_
  refine sim_getI flX9_15 rfl rfl dX9_become_10 ?_
  refine sim_putI fpX9_15 rfl rfl rfl rfl dX9_become_13 ?_
  refine sim_nmH (fun g2 => ?_)
  refine sim_aload_n 1 rfl dX9_become_16 ?_
  refine sim_getR flX9_18 rfl rfl dX9_become_17 ?_
  refine sim_aload_n 0 rfl dX9_become_20 ?_
  refine sim_getR flX9_18 rfl rfl dX9_become_21 ?_
  refine sim_bind (fun b3 e4 => ?_)
  refine sim_cS (As := [.ref 15, .ref 4]) (st := []) (r := none) (h1 := b3) (okX11_copyRow 15 rfl 4 rfl g2 b3 e4) (fun _ => rfl) mlX9_32 mtX11_copyRow rfl (Nat.le_of_ble_eq_true rfl) rfl (Nat.le_of_ble_eq_true rfl) dX9_become_24 ?_
  refine sim_aload_n 1 rfl dX9_become_27 ?_
  refine sim_getR flX9_22 rfl rfl dX9_become_28 ?_
  refine sim_aload_n 0 rfl dX9_become_31 ?_
  refine sim_getR flX9_22 rfl rfl dX9_become_32 ?_
  refine sim_bind (fun b5 e6 => ?_)
  refine sim_cS (As := [.ref 16, .ref 5]) (st := []) (r := none) (h1 := b5) (okX11_copyRow 16 rfl 5 rfl b3 b5 e6) (fun _ => rfl) mlX9_32 mtX11_copyRow rfl (Nat.le_of_ble_eq_true rfl) rfl (Nat.le_of_ble_eq_true rfl) dX9_become_35 ?_
  refine sim_aload_n 0 rfl dX9_become_38 ?_
  refine sim_getR flX9_28 rfl rfl dX9_become_39 ?_
  refine sim_aload_n 1 rfl dX9_become_42 ?_
  refine sim_getR flX9_28 rfl rfl dX9_become_43 ?_
  refine sim_bind (fun b7 e8 => ?_)
  refine sim_cV (As := [.ref 17]) (st := []) (r := none) (h1 := b7) (okX6_become_2 b5 b7 e8) (fun _ => rfl) mlX9_36 mtX6_become rfl rfl rfl rfl (Nat.le_of_ble_eq_true rfl) rfl (Nat.le_of_ble_eq_true rfl) dX9_become_46 ?_
  exact sim_vret rfl rfl dX9_become_49
theorem okX9_become_1 (h : AH) (b : AH) (e : fX9_become_1 h = some b) : Ok yX9_become cX9_become 2 none 3 [.ref 3, .ref 14] h (none, b) := ok_of (sX9_become_1 h) (by rw [e]; rfl) (by decide +kernel) (Nat.le_of_ble_eq_true rfl)
def fX11_undo (h : AH) : Option (Int32 × AH) :=
  if (h.1 0 3) = 0 then
    some ((0 : Int32), h)
  else
    (fX9_become_1 h).bind (fun b2 =>
    some ((1 : Int32), b2))
theorem sX11_undo (h : AH) : Sim RX11 cX11_undo 1 (some .boolean) 4 (Option.map oI) (fX11_undo h) 0 [(0, .ref 0)] [] h := by
  unfold fX11_undo
  refine sim_aload_n 0 rfl dX11_undo_0 ?_
  refine sim_getI flX11_26 rfl rfl dX11_undo_1 ?_
  refine sim_if_ne (tgt := 9) dX11_undo_4 (by decide) (fun c1 => ?_) (fun c1 => ?_)
  · refine sim_aload_n 0 rfl dX11_undo_9 ?_
    refine sim_getR flX11_19 rfl rfl dX11_undo_10 ?_
    refine sim_aload_n 0 rfl dX11_undo_13 ?_
    refine sim_getR flX11_23 rfl rfl dX11_undo_14 ?_
    refine sim_bind (fun b2 e3 => ?_)
    refine sim_cV (As := [.ref 14]) (st := []) (r := none) (h1 := b2) (okX9_become_1 h b2 e3) (fun _ => rfl) mlX11_332 mtX9_become rfl rfl rfl rfl (Nat.le_of_ble_eq_true rfl) rfl (Nat.le_of_ble_eq_true rfl) dX11_undo_17 ?_
    refine sim_iconst (v := 1) (by decide) dX11_undo_20 ?_
    exact sim_zret rfl rfl rfl dX11_undo_21
  · refine sim_iconst (v := 0) (by decide) dX11_undo_7 ?_
    exact sim_zret rfl rfl rfl dX11_undo_8
theorem okX11_undo (h : AH) (b : Int32 × AH) (e : fX11_undo h = some b) : Ok yX11_undo cX11_undo 1 (some .boolean) 4 [.ref 0] h (some (.int b.1), b.2) := ok_of (sX11_undo h) (by rw [e]; rfl) (by decide +kernel) (Nat.le_of_ble_eq_true rfl)
def fX10_number_l4b (rec : Int32 → Int32 → Option Int32) (x1 : Int32) (h : AH) (x2 : Int32) (x3 : Int32) : Option Int32 :=
  if x3 < (4 : Int32) then
    letT ((jshl x2 (8 : Int32)) ||| (fX11_at 2 (((4 : Int32) * x1) + x3) h)) (fun v2 =>
    rec v2 (x3 + 1))
  else
    some x2
def fX10_number_l4 (x1 : Int32) (h : AH) : Nat → Int32 → Int32 → Option Int32
  | 0, _, _ => none
  | n + 1, x2, x3 => fX10_number_l4b (fX10_number_l4 x1 h n) x1 h x2 x3
theorem sX10_number_l4b {rec : Int32 → Int32 → Option Int32} {x1 : Int32} {h : AH} (hR : ∀ (x2 : Int32) (x3 : Int32), Sim RX10 cX10_number 4 (some .int) 2 (Option.map (pI h)) (rec x2 x3) 4 [(0, .ref 1), (1, .int x1), (2, .int x2), (3, .int x3)] [] h) : ∀ (x2 : Int32) (x3 : Int32), Sim RX10 cX10_number 4 (some .int) 2 (Option.map (pI h)) (fX10_number_l4b rec x1 h x2 x3) 4 [(0, .ref 1), (1, .int x1), (2, .int x2), (3, .int x3)] [] h := by
  intro x2 x3
  unfold fX10_number_l4b
  refine sim_iload_n 3 rfl dX10_number_4 ?_
  refine sim_iconst (v := 4) (by decide) dX10_number_5 ?_
  refine sim_icmp_ge (tgt := 33) dX10_number_6 (by decide) (fun c1 => ?_) (fun c1 => ?_)
  · refine sim_iload_n 2 rfl dX10_number_33 ?_
    exact sim_iret rfl rfl dX10_number_34
  · refine sim_iload_n 2 rfl dX10_number_9 ?_
    refine sim_bipush (v := 8) (by decide) dX10_number_10 ?_
    refine sim_ishl dX10_number_12 ?_
    refine sim_aload_n 0 rfl dX10_number_13 ?_
    refine sim_getR flX10_9 rfl rfl dX10_number_14 ?_
    refine sim_iconst (v := 4) (by decide) dX10_number_17 ?_
    refine sim_iload_n 1 rfl dX10_number_18 ?_
    refine sim_imul dX10_number_19 ?_
    refine sim_iload_n 3 rfl dX10_number_20 ?_
    refine sim_iadd dX10_number_21 ?_
    refine sim_cS (As := [.ref 2, .int (((4 : Int32) * x1) + x3)]) (st := [.int (jshl x2 (8 : Int32))]) (r := (some (.int (fX11_at 2 (((4 : Int32) * x1) + x3) h)))) (h1 := h) (okX11_at 2 rfl (((4 : Int32) * x1) + x3) h) (fun _ => rfl) mlX10_35 mtX11_at rfl (Nat.le_of_ble_eq_true rfl) rfl (Nat.le_of_ble_eq_true rfl) dX10_number_22 ?_
    refine sim_ior dX10_number_25 ?_
    refine sim_nmI (fun v2 => ?_)
    refine sim_istore_n (L' := [(2, .int v2), (0, .ref 1), (1, .int x1), (3, .int x3)]) rfl (by decide) dX10_number_26 ?_
    refine sim_iinc (v := x3 + 1) (L' := [(3, .int (x3 + 1)), (2, .int v2), (0, .ref 1), (1, .int x1)]) 3 rfl rfl rfl (by decide) dX10_number_27 ?_
    refine sim_goto (tgt := 4) dX10_number_30 (by decide) ?_
    refine sim_sub [2, 3, 1, 0] rfl ?_
    exact hR v2 (x3 + 1)
theorem sX10_number_l4 {x1 : Int32} {h : AH} : ∀ (n : Nat) (x2 : Int32) (x3 : Int32), Sim RX10 cX10_number 4 (some .int) 2 (Option.map (pI h)) (fX10_number_l4 x1 h n x2 x3) 4 [(0, .ref 1), (1, .int x1), (2, .int x2), (3, .int x3)] [] h := by
  intro n
  induction n with
  | zero => intro x2 x3; exact sim_none
  | succ n ih => intro x2 x3; exact sX10_number_l4b ih x2 x3
def fX10_number (p1 : Int32) (h : AH) : Option Int32 :=
  fX10_number_l4 p1 h fuel0 (0 : Int32) (0 : Int32)
theorem sX10_number (p1 : Int32) (h : AH) : Sim RX10 cX10_number 4 (some .int) 2 (Option.map (pI h)) (fX10_number p1 h) 0 [(0, .ref 1), (1, .int p1)] [] h := by
  unfold fX10_number
  refine sim_iconst (v := 0) (by decide) dX10_number_0 ?_
  refine sim_istore_n (L' := [(2, .int (0 : Int32)), (0, .ref 1), (1, .int p1)]) rfl (by decide) dX10_number_1 ?_
  refine sim_iconst (v := 0) (by decide) dX10_number_2 ?_
  refine sim_istore_n (L' := [(3, .int (0 : Int32)), (2, .int (0 : Int32)), (0, .ref 1), (1, .int p1)]) rfl (by decide) dX10_number_3 ?_
  refine sim_sub [2, 3, 1, 0] rfl ?_
  refine sX10_number_l4 _ (0 : Int32) (0 : Int32)
theorem okX10_number (p1 : Int32) (h : AH) (b : Int32) (e : fX10_number p1 h = some b) : Ok yX10_number cX10_number 4 (some .int) 2 [.ref 1, .int p1] h (some (.int b), h) := ok_of (sX10_number p1 h) (by rw [e]; rfl) (by decide +kernel) (Nat.le_of_ble_eq_true rfl)
def fX11_check_l30b (rec : Int32 → Int32 → Option (Int32 × AH)) (K81 : Int32 → Option (Int32 × AH)) (x1 : Int32) (h : AH) (x2 : Int32) (x3 : Int32) : Option (Int32 × AH) :=
  if x3 < x1 then
    if x2 = (-1 : Int32) then
      if (fX6_holds x3 h) = 0 then
        rec x3 (x3 + 1)
      else
        (fX10_number x3 h).bind (fun b7 =>
        if b7 = (fX9_claimOf x3 h) then
          rec x2 (x3 + 1)
        else
          rec x3 (x3 + 1))
    else
      K81 x2
  else
    K81 x2
def fX11_check_l30 (K81 : Int32 → Option (Int32 × AH)) (x1 : Int32) (h : AH) : Nat → Int32 → Int32 → Option (Int32 × AH)
  | 0, _, _ => none
  | n + 1, x2, x3 => fX11_check_l30b (fX11_check_l30 K81 x1 h n) K81 x1 h x2 x3
theorem sX11_check_l30b {rec : Int32 → Int32 → Option (Int32 × AH)} {K81 : Int32 → Option (Int32 × AH)} {x1 : Int32} {h : AH} (hR : ∀ (x2 : Int32) (x3 : Int32), Sim RX11 cX11_check 4 (some .int) 3 (Option.map oI) (rec x2 x3) 30 [(0, .ref 0), (1, .int x1), (2, .int x2), (3, .int x3)] [] h) (hK81 : ∀ (y2 : Int32), Sim RX11 cX11_check 4 (some .int) 3 (Option.map oI) (K81 y2) 81 [(0, .ref 0), (2, .int y2)] [] h) : ∀ (x2 : Int32) (x3 : Int32), Sim RX11 cX11_check 4 (some .int) 3 (Option.map oI) (fX11_check_l30b rec K81 x1 h x2 x3) 30 [(0, .ref 0), (1, .int x1), (2, .int x2), (3, .int x3)] [] h := by
  intro x2 x3
  unfold fX11_check_l30b
  refine sim_iload_n 3 rfl dX11_check_30 ?_
  refine sim_iload_n 1 rfl dX11_check_31 ?_
  refine sim_icmp_ge (tgt := 81) dX11_check_32 (by decide) (fun c4 => ?_) (fun c4 => ?_)
  · refine sim_sub [0, 2] rfl ?_
    exact hK81 x2
  · refine sim_iload_n 2 rfl dX11_check_35 ?_
    refine sim_iconst (v := -1) (by decide) dX11_check_36 ?_
    refine sim_icmp_ne (tgt := 81) dX11_check_37 (by decide) (fun c5 => ?_) (fun c5 => ?_)
    · refine sim_sub [0, 2] rfl ?_
      exact hK81 x2
    · refine sim_aload_n 0 rfl dX11_check_40 ?_
      refine sim_getR flX11_19 rfl rfl dX11_check_41 ?_
      refine sim_getR flX11_133 rfl rfl dX11_check_44 ?_
      refine sim_iload_n 3 rfl dX11_check_47 ?_
      refine sim_cV (As := [.int x3]) (st := []) (r := (some (.int (fX6_holds x3 h)))) (h1 := h) (okX6_holds x3 h) (fun _ => rfl) mlX11_155 mtX6_holds rfl rfl rfl rfl (Nat.le_of_ble_eq_true rfl) rfl (Nat.le_of_ble_eq_true rfl) dX11_check_48 ?_
      refine sim_if_eq (tgt := 73) dX11_check_51 (by decide) (fun c6 => ?_) (fun c6 => ?_)
      · refine sim_iload_n 3 rfl dX11_check_73 ?_
        refine sim_istore_n (L' := [(2, .int x3), (0, .ref 0), (1, .int x1), (3, .int x3)]) rfl (by decide) dX11_check_74 ?_
        refine sim_iinc (v := x3 + 1) (L' := [(3, .int (x3 + 1)), (2, .int x3), (0, .ref 0), (1, .int x1)]) 3 rfl rfl rfl (by decide) dX11_check_75 ?_
        refine sim_goto (tgt := 30) dX11_check_78 (by decide) ?_
        refine sim_sub [2, 3, 1, 0] rfl ?_
        exact hR x3 (x3 + 1)
      · refine sim_aload_n 0 rfl dX11_check_54 ?_
        refine sim_getR flX11_10 rfl rfl dX11_check_55 ?_
        refine sim_iload_n 3 rfl dX11_check_58 ?_
        refine sim_bind (fun b7 e8 => ?_)
        refine sim_cV (As := [.int x3]) (st := []) (r := (some (.int b7))) (h1 := h) (okX10_number x3 h b7 e8) (fun _ => rfl) mlX11_335 mtX10_number rfl rfl rfl rfl (Nat.le_of_ble_eq_true rfl) rfl (Nat.le_of_ble_eq_true rfl) dX11_check_59 ?_
        refine sim_aload_n 0 rfl dX11_check_62 ?_
        refine sim_getR flX11_19 rfl rfl dX11_check_63 ?_
        refine sim_iload_n 3 rfl dX11_check_66 ?_
        refine sim_cV (As := [.int x3]) (st := [.int b7]) (r := (some (.int (fX9_claimOf x3 h)))) (h1 := h) (okX9_claimOf x3 h) (fun _ => rfl) mlX11_158 mtX9_claimOf rfl rfl rfl rfl (Nat.le_of_ble_eq_true rfl) rfl (Nat.le_of_ble_eq_true rfl) dX11_check_67 ?_
        refine sim_icmp_eq (tgt := 75) dX11_check_70 (by decide) (fun c9 => ?_) (fun c9 => ?_)
        · refine sim_iinc (v := x3 + 1) (L' := [(3, .int (x3 + 1)), (0, .ref 0), (1, .int x1), (2, .int x2)]) 3 rfl rfl rfl (by decide) dX11_check_75 ?_
          refine sim_goto (tgt := 30) dX11_check_78 (by decide) ?_
          refine sim_sub [1, 2, 3, 0] rfl ?_
          exact hR x2 (x3 + 1)
        · refine sim_iload_n 3 rfl dX11_check_73 ?_
          refine sim_istore_n (L' := [(2, .int x3), (0, .ref 0), (1, .int x1), (3, .int x3)]) rfl (by decide) dX11_check_74 ?_
          refine sim_iinc (v := x3 + 1) (L' := [(3, .int (x3 + 1)), (2, .int x3), (0, .ref 0), (1, .int x1)]) 3 rfl rfl rfl (by decide) dX11_check_75 ?_
          refine sim_goto (tgt := 30) dX11_check_78 (by decide) ?_
          refine sim_sub [2, 3, 1, 0] rfl ?_
          exact hR x3 (x3 + 1)
theorem sX11_check_l30 {K81 : Int32 → Option (Int32 × AH)} {x1 : Int32} {h : AH} (hK81 : ∀ (y2 : Int32), Sim RX11 cX11_check 4 (some .int) 3 (Option.map oI) (K81 y2) 81 [(0, .ref 0), (2, .int y2)] [] h) : ∀ (n : Nat) (x2 : Int32) (x3 : Int32), Sim RX11 cX11_check 4 (some .int) 3 (Option.map oI) (fX11_check_l30 K81 x1 h n x2 x3) 30 [(0, .ref 0), (1, .int x1), (2, .int x2), (3, .int x3)] [] h := by
  intro n
  induction n with
  | zero => intro x2 x3; exact sim_none
  | succ n ih => intro x2 x3; exact sX11_check_l30b ih hK81 x2 x3
def fX11_check (p1 : Int32) (h : AH) : Option (Int32 × AH) :=
  if p1 < 0 then
    some ((-2 : Int32), h)
  else
    if (20 : Int32) < p1 then
      some ((-2 : Int32), h)
    else
      if (h.1 1 1) < ((4 : Int32) * p1) then
        some ((-2 : Int32), h)
      else
        fX11_check_l30 (fun (y10 : Int32) =>
          letT (fX10_clear h) (fun g11 =>
          some (y10, g11))) p1 h fuel0 (-1 : Int32) (0 : Int32)
theorem sX11_check (p1 : Int32) (h : AH) : Sim RX11 cX11_check 4 (some .int) 3 (Option.map oI) (fX11_check p1 h) 0 [(0, .ref 0), (1, .int p1)] [] h := by
  unfold fX11_check
  refine sim_iload_n 1 rfl dX11_check_0 ?_
  refine sim_if_lt (tgt := 23) dX11_check_1 (by decide) (fun c1 => ?_) (fun c1 => ?_)
  · refine sim_bipush (v := -2) (by decide) dX11_check_23 ?_
    exact sim_iret rfl rfl dX11_check_25
  · refine sim_iload_n 1 rfl dX11_check_4 ?_
    refine sim_bipush (v := 20) (by decide) dX11_check_5 ?_
    refine sim_icmp_gt (tgt := 23) dX11_check_7 (by decide) (fun c2 => ?_) (fun c2 => ?_)
    · refine sim_bipush (v := -2) (by decide) dX11_check_23 ?_
      exact sim_iret rfl rfl dX11_check_25
    · refine sim_iconst (v := 4) (by decide) dX11_check_10 ?_
      refine sim_iload_n 1 rfl dX11_check_11 ?_
      refine sim_imul dX11_check_12 ?_
      refine sim_aload_n 0 rfl dX11_check_13 ?_
      refine sim_getR flX11_10 rfl rfl dX11_check_14 ?_
      refine sim_getI flX11_116 rfl rfl dX11_check_17 ?_
      refine sim_icmp_le (tgt := 26) dX11_check_20 (by decide) (fun c3 => ?_) (fun c3 => ?_)
      · refine sim_iconst (v := -1) (by decide) dX11_check_26 ?_
        refine sim_istore_n (L' := [(2, .int (-1 : Int32)), (0, .ref 0), (1, .int p1)]) rfl (by decide) dX11_check_27 ?_
        refine sim_iconst (v := 0) (by decide) dX11_check_28 ?_
        refine sim_istore_n (L' := [(3, .int (0 : Int32)), (2, .int (-1 : Int32)), (0, .ref 0), (1, .int p1)]) rfl (by decide) dX11_check_29 ?_
        refine sim_sub [2, 3, 1, 0] rfl ?_
        refine sX11_check_l30 (fun y10 => ?_) _ (-1 : Int32) (0 : Int32)
        · refine sim_aload_n 0 rfl dX11_check_81 ?_
          refine sim_getR flX11_10 rfl rfl dX11_check_82 ?_
          refine sim_cV (As := []) (st := []) (r := none) (h1 := (fX10_clear h)) (okX10_clear h) (fun _ => rfl) mlX11_130 mtX10_clear rfl rfl rfl rfl (Nat.le_of_ble_eq_true rfl) rfl (Nat.le_of_ble_eq_true rfl) dX11_check_85 ?_
          refine sim_nmH (fun g11 => ?_)
          refine sim_iload_n 1 rfl dX11_check_88 ?_
          exact sim_iret rfl rfl dX11_check_89
      · refine sim_bipush (v := -2) (by decide) dX11_check_23 ?_
        exact sim_iret rfl rfl dX11_check_25
theorem okX11_check (p1 : Int32) (h : AH) (b : Int32 × AH) (e : fX11_check p1 h = some b) : Ok yX11_check cX11_check 4 (some .int) 3 [.ref 0, .int p1] h (some (.int b.1), b.2) := ok_of (sX11_check p1 h) (by rw [e]; rfl) (by decide +kernel) (Nat.le_of_ble_eq_true rfl)
def fX11_count (p1 : Int32) (h : AH) : Option (Int32 × AH) :=
  letT (if p1 = 0 then
      some (h.1 6 0, h)
    else
    if p1 = 1 then
      some (h.1 42 0, h)
    else
    if p1 = 2 then
      some (h.1 1 1, h)
    else
    if p1 = 3 then
      some (h.1 3 1, h)
    else
    if p1 = 4 then
      some (h.1 3 0, h)
    else
    if p1 = 5 then
      (fX11_line (fX6_last h) (0 : Int32) h).bind (fun b8 =>
      some (b8.1, b8.2))
    else
    if p1 = 6 then
      (fX11_line (fX6_last h) (4 : Int32) h).bind (fun b11 =>
      some (b11.1, b11.2))
    else
    some ((-1 : Int32), h)) (fun J1 =>
  if p1 < (10 : Int32) then
    J1
  else
    if p1 < (20 : Int32) then
      some (fX11_at 4 (p1 - (10 : Int32)) h, h)
    else
      J1)
theorem sX11_count (p1 : Int32) (h : AH) : Sim RX11 cX11_count 2 (some .int) 6 (Option.map oI) (fX11_count p1 h) 0 [(0, .ref 0), (1, .int p1)] [] h := by
  unfold fX11_count
  refine sim_iload_n 1 rfl dX11_count_0 ?_
  refine sim_bipush (v := 10) (by decide) dX11_count_1 ?_
  refine sim_letJ (fun J1 => Sim RX11 cX11_count 2 (some .int) 6 (Option.map oI) (J1) 27 [(0, .ref 0), (1, .int p1)] [] h) (?_) (fun J1 hJ1 => ?_)
  · refine sim_iload_n 1 rfl dX11_count_27 ?_
    refine sim_case (v := 0) (tgt := 72) (0) dX11_count_28 (by decide) (by decide) (by decide) rfl (by decide) ?_ (fun c2 => ?_)
    · refine sim_aload_n 0 rfl dX11_count_72 ?_
      refine sim_getR flX11_19 rfl rfl dX11_count_73 ?_
      refine sim_getR flX11_133 rfl rfl dX11_count_76 ?_
      refine sim_getI flX11_198 rfl rfl dX11_count_79 ?_
      exact sim_iret rfl rfl dX11_count_82
    refine sim_case (v := 1) (tgt := 83) (1) dX11_count_28 (by decide) (by decide) (by decide) rfl (by decide) ?_ (fun c3 => ?_)
    · refine sim_aload_n 0 rfl dX11_count_83 ?_
      refine sim_getR flX11_49 rfl rfl dX11_count_84 ?_
      refine sim_getI flX11_338 rfl rfl dX11_count_87 ?_
      exact sim_iret rfl rfl dX11_count_90
    refine sim_case (v := 2) (tgt := 91) (2) dX11_count_28 (by decide) (by decide) (by decide) rfl (by decide) ?_ (fun c4 => ?_)
    · refine sim_aload_n 0 rfl dX11_count_91 ?_
      refine sim_getR flX11_10 rfl rfl dX11_count_92 ?_
      refine sim_getI flX11_116 rfl rfl dX11_count_95 ?_
      exact sim_iret rfl rfl dX11_count_98
    refine sim_case (v := 3) (tgt := 99) (3) dX11_count_28 (by decide) (by decide) (by decide) rfl (by decide) ?_ (fun c5 => ?_)
    · refine sim_aload_n 0 rfl dX11_count_99 ?_
      refine sim_getR flX11_19 rfl rfl dX11_count_100 ?_
      refine sim_getI flX11_306 rfl rfl dX11_count_103 ?_
      exact sim_iret rfl rfl dX11_count_106
    refine sim_case (v := 4) (tgt := 107) (4) dX11_count_28 (by decide) (by decide) (by decide) rfl (by decide) ?_ (fun c6 => ?_)
    · refine sim_aload_n 0 rfl dX11_count_107 ?_
      refine sim_getR flX11_19 rfl rfl dX11_count_108 ?_
      refine sim_getI flX11_123 rfl rfl dX11_count_111 ?_
      exact sim_iret rfl rfl dX11_count_114
    refine sim_case (v := 5) (tgt := 115) (5) dX11_count_28 (by decide) (by decide) (by decide) rfl (by decide) ?_ (fun c7 => ?_)
    · refine sim_aload_n 0 rfl dX11_count_115 ?_
      refine sim_aload_n 0 rfl dX11_count_116 ?_
      refine sim_getR flX11_19 rfl rfl dX11_count_117 ?_
      refine sim_getR flX11_133 rfl rfl dX11_count_120 ?_
      refine sim_cV (As := []) (st := [.ref 0]) (r := (some (.int (fX6_last h)))) (h1 := h) (okX6_last h) (fun _ => rfl) mlX11_211 mtX6_last rfl rfl rfl rfl (Nat.le_of_ble_eq_true rfl) rfl (Nat.le_of_ble_eq_true rfl) dX11_count_123 ?_
      refine sim_iconst (v := 0) (by decide) dX11_count_126 ?_
      refine sim_bind (fun b8 e9 => ?_)
      refine sim_cV (As := [.int (fX6_last h), .int (0 : Int32)]) (st := []) (r := (some (.int b8.1))) (h1 := b8.2) (okX11_line (fX6_last h) (0 : Int32) h b8 e9) (fun _ => rfl) mlX11_341 mtX11_line rfl rfl rfl rfl (Nat.le_of_ble_eq_true rfl) rfl (Nat.le_of_ble_eq_true rfl) dX11_count_127 ?_
      exact sim_iret rfl rfl dX11_count_130
    refine sim_case (v := 6) (tgt := 131) (6) dX11_count_28 (by decide) (by decide) (by decide) rfl (by decide) ?_ (fun c10 => ?_)
    · refine sim_aload_n 0 rfl dX11_count_131 ?_
      refine sim_aload_n 0 rfl dX11_count_132 ?_
      refine sim_getR flX11_19 rfl rfl dX11_count_133 ?_
      refine sim_getR flX11_133 rfl rfl dX11_count_136 ?_
      refine sim_cV (As := []) (st := [.ref 0]) (r := (some (.int (fX6_last h)))) (h1 := h) (okX6_last h) (fun _ => rfl) mlX11_211 mtX6_last rfl rfl rfl rfl (Nat.le_of_ble_eq_true rfl) rfl (Nat.le_of_ble_eq_true rfl) dX11_count_139 ?_
      refine sim_iconst (v := 4) (by decide) dX11_count_142 ?_
      refine sim_bind (fun b11 e12 => ?_)
      refine sim_cV (As := [.int (fX6_last h), .int (4 : Int32)]) (st := []) (r := (some (.int b11.1))) (h1 := b11.2) (okX11_line (fX6_last h) (4 : Int32) h b11 e12) (fun _ => rfl) mlX11_341 mtX11_line rfl rfl rfl rfl (Nat.le_of_ble_eq_true rfl) rfl (Nat.le_of_ble_eq_true rfl) dX11_count_143 ?_
      exact sim_iret rfl rfl dX11_count_146
    refine sim_dflt (tgt := 147) dX11_count_28 (by omega) (by decide) ?_
    refine sim_iconst (v := -1) (by decide) dX11_count_147 ?_
    exact sim_iret rfl rfl dX11_count_148
  refine sim_icmp_lt (tgt := 27) dX11_count_3 (by decide) (fun c13 => ?_) (fun c13 => ?_)
  · exact hJ1
  · refine sim_iload_n 1 rfl dX11_count_6 ?_
    refine sim_bipush (v := 20) (by decide) dX11_count_7 ?_
    refine sim_icmp_ge (tgt := 27) dX11_count_9 (by decide) (fun c14 => ?_) (fun c14 => ?_)
    · exact hJ1
    · refine sim_aload_n 0 rfl dX11_count_12 ?_
      refine sim_getR flX11_19 rfl rfl dX11_count_13 ?_
      refine sim_getR flX11_109 rfl rfl dX11_count_16 ?_
      refine sim_iload_n 1 rfl dX11_count_19 ?_
      refine sim_bipush (v := 10) (by decide) dX11_count_20 ?_
      refine sim_isub dX11_count_22 ?_
      refine sim_cS (As := [.ref 4, .int (p1 - (10 : Int32))]) (st := []) (r := (some (.int (fX11_at 4 (p1 - (10 : Int32)) h)))) (h1 := h) (okX11_at 4 rfl (p1 - (10 : Int32)) h) (fun _ => rfl) mlX11_164 mtX11_at rfl (Nat.le_of_ble_eq_true rfl) rfl (Nat.le_of_ble_eq_true rfl) dX11_count_23 ?_
      exact sim_iret rfl rfl dX11_count_26
theorem okX11_count (p1 : Int32) (h : AH) (b : Int32 × AH) (e : fX11_count p1 h = some b) : Ok yX11_count cX11_count 2 (some .int) 6 [.ref 0, .int p1] h (some (.int b.1), b.2) := ok_of (sX11_count p1 h) (by rw [e]; rfl) (by decide +kernel) (Nat.le_of_ble_eq_true rfl)
end
