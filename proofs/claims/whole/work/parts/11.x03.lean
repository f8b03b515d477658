noncomputable section
def fX11_referred_l27b (rec : Int32 → AH → Option (Int32 × AH)) (K73 : AH → Option (Int32 × AH)) (x1 : Int32) (x2 : Int32) (h : AH) : Option (Int32 × AH) :=
  if x2 < (h.1 6 0) then
    (fX9_wrongLines h).bind (fun b9 =>
    if b9 = (fX11_bit x2 h) then
      (fX11_referElsewhere x2 (0 : Int32) h).bind (fun b12 =>
      (fX11_referElsewhere x2 (1 : Int32) b12).bind (fun b14 =>
      rec (x2 + 1) b14))
    else
      rec (x2 + 1) h)
  else
    K73 h
def fX11_referred_l27 (K73 : AH → Option (Int32 × AH)) (x1 : Int32) : Nat → Int32 → AH → Option (Int32 × AH)
  | 0, _, _ => none
  | n + 1, x2, h => fX11_referred_l27b (fX11_referred_l27 K73 x1 n) K73 x1 x2 h
theorem sX11_referred_l27b {rec : Int32 → AH → Option (Int32 × AH)} {K73 : AH → Option (Int32 × AH)} {x1 : Int32} (hR : ∀ (x2 : Int32) (h : AH), Sim RX11 cX11_referred 3 (some .int) 6 (Option.map oI) (rec x2 h) 27 [(0, .ref 0), (1, .int x1), (2, .int x2)] [] h) (hK73 : ∀ (g : AH), Sim RX11 cX11_referred 3 (some .int) 6 (Option.map oI) (K73 g) 73 [(0, .ref 0), (1, .int x1)] [] g) : ∀ (x2 : Int32) (h : AH), Sim RX11 cX11_referred 3 (some .int) 6 (Option.map oI) (fX11_referred_l27b rec K73 x1 x2 h) 27 [(0, .ref 0), (1, .int x1), (2, .int x2)] [] h := by
  intro x2 h
  unfold fX11_referred_l27b
  refine sim_iload_n 2 rfl dX11_referred_27 ?_
  refine sim_aload_n 0 rfl dX11_referred_28 ?_
  refine sim_getR flX11_19 rfl rfl dX11_referred_29 ?_
  refine sim_getR flX11_133 rfl rfl dX11_referred_32 ?_
  refine sim_getI flX11_198 rfl rfl dX11_referred_35 ?_
  refine sim_icmp_ge (tgt := 73) dX11_referred_38 (by decide) (fun c8 => ?_) (fun c8 => ?_)
  · refine sim_sub [0, 1] rfl ?_
    exact hK73 h
  · refine sim_aload_n 0 rfl dX11_referred_41 ?_
    refine sim_getR flX11_19 rfl rfl dX11_referred_42 ?_
    refine sim_bind (fun b9 e10 => ?_)
    refine sim_cV (As := []) (st := []) (r := (some (.int b9))) (h1 := h) (okX9_wrongLines h b9 e10) (fun _ => rfl) mlX11_194 mtX9_wrongLines rfl rfl rfl rfl (Nat.le_of_ble_eq_true rfl) rfl (Nat.le_of_ble_eq_true rfl) dX11_referred_45 ?_
    refine sim_iload_n 2 rfl dX11_referred_48 ?_
    refine sim_cS (As := [.int x2]) (st := [.int b9]) (r := (some (.int (fX11_bit x2 h)))) (h1 := h) (okX11_bit x2 h) (fun _ => rfl) mlX11_229 mtX11_bit rfl (Nat.le_of_ble_eq_true rfl) rfl (Nat.le_of_ble_eq_true rfl) dX11_referred_49 ?_
    refine sim_icmp_ne (tgt := 67) dX11_referred_52 (by decide) (fun c11 => ?_) (fun c11 => ?_)
    · refine sim_iinc (v := x2 + 1) (L' := [(2, .int (x2 + 1)), (0, .ref 0), (1, .int x1)]) 2 rfl rfl rfl (by decide) dX11_referred_67 ?_
      refine sim_goto (tgt := 27) dX11_referred_70 (by decide) ?_
      refine sim_sub [1, 2, 0] rfl ?_
      exact hR (x2 + 1) h
    · refine sim_aload_n 0 rfl dX11_referred_55 ?_
      refine sim_iload_n 2 rfl dX11_referred_56 ?_
      refine sim_iconst (v := 0) (by decide) dX11_referred_57 ?_
      refine sim_bind (fun b12 e13 => ?_)
      refine sim_cV (As := [.int x2, .int (0 : Int32)]) (st := []) (r := none) (h1 := b12) (okX11_referElsewhere x2 (0 : Int32) h b12 e13) (fun _ => rfl) mlX11_232 mtX11_referElsewhere rfl rfl rfl rfl (Nat.le_of_ble_eq_true rfl) rfl (Nat.le_of_ble_eq_true rfl) dX11_referred_58 ?_
      refine sim_aload_n 0 rfl dX11_referred_61 ?_
      refine sim_iload_n 2 rfl dX11_referred_62 ?_
      refine sim_iconst (v := 1) (by decide) dX11_referred_63 ?_
      refine sim_bind (fun b14 e15 => ?_)
      refine sim_cV (As := [.int x2, .int (1 : Int32)]) (st := []) (r := none) (h1 := b14) (okX11_referElsewhere x2 (1 : Int32) b12 b14 e15) (fun _ => rfl) mlX11_232 mtX11_referElsewhere rfl rfl rfl rfl (Nat.le_of_ble_eq_true rfl) rfl (Nat.le_of_ble_eq_true rfl) dX11_referred_64 ?_
      refine sim_iinc (v := x2 + 1) (L' := [(2, .int (x2 + 1)), (0, .ref 0), (1, .int x1)]) 2 rfl rfl rfl (by decide) dX11_referred_67 ?_
      refine sim_goto (tgt := 27) dX11_referred_70 (by decide) ?_
      refine sim_sub [1, 2, 0] rfl ?_
      exact hR (x2 + 1) b14
theorem sX11_referred_l27 {K73 : AH → Option (Int32 × AH)} {x1 : Int32} (hK73 : ∀ (g : AH), Sim RX11 cX11_referred 3 (some .int) 6 (Option.map oI) (K73 g) 73 [(0, .ref 0), (1, .int x1)] [] g) : ∀ (n : Nat) (x2 : Int32) (h : AH), Sim RX11 cX11_referred 3 (some .int) 6 (Option.map oI) (fX11_referred_l27 K73 x1 n x2 h) 27 [(0, .ref 0), (1, .int x1), (2, .int x2)] [] h := by
  intro n
  induction n with
  | zero => intro x2 h; exact sim_none
  | succ n ih => intro x2 h; exact sX11_referred_l27b ih hK73 x2 h
def fX11_referred (p1 : Int32) (h : AH) : Option (Int32 × AH) :=
  if p1 < 0 then
    some ((-1 : Int32), h)
  else
    if (3 : Int32) < p1 then
      some ((-1 : Int32), h)
    else
      (fX9_wrongLines h).bind (fun b3 =>
      if b3 = 0 then
        some ((-1 : Int32), h)
      else
        (fX11_forgetFound h).bind (fun b6 =>
        fX11_referred_l27 (fun (g16 : AH) =>
          some (fX11_at 52 p1 g16, g16)) p1 fuel0 (0 : Int32) b6))
theorem sX11_referred (p1 : Int32) (h : AH) : Sim RX11 cX11_referred 3 (some .int) 6 (Option.map oI) (fX11_referred p1 h) 0 [(0, .ref 0), (1, .int p1)] [] h := by
  unfold fX11_referred
  refine sim_iload_n 1 rfl dX11_referred_0 ?_
  refine sim_if_lt (tgt := 19) dX11_referred_1 (by decide) (fun c1 => ?_) (fun c1 => ?_)
  · refine sim_iconst (v := -1) (by decide) dX11_referred_19 ?_
    exact sim_iret rfl rfl dX11_referred_20
  · refine sim_iload_n 1 rfl dX11_referred_4 ?_
    refine sim_iconst (v := 3) (by decide) dX11_referred_5 ?_
    refine sim_icmp_gt (tgt := 19) dX11_referred_6 (by decide) (fun c2 => ?_) (fun c2 => ?_)
    · refine sim_iconst (v := -1) (by decide) dX11_referred_19 ?_
      exact sim_iret rfl rfl dX11_referred_20
    · refine sim_aload_n 0 rfl dX11_referred_9 ?_
      refine sim_getR flX11_19 rfl rfl dX11_referred_10 ?_
      refine sim_bind (fun b3 e4 => ?_)
      refine sim_cV (As := []) (st := []) (r := (some (.int b3))) (h1 := h) (okX9_wrongLines h b3 e4) (fun _ => rfl) mlX11_194 mtX9_wrongLines rfl rfl rfl rfl (Nat.le_of_ble_eq_true rfl) rfl (Nat.le_of_ble_eq_true rfl) dX11_referred_13 ?_
      refine sim_if_ne (tgt := 21) dX11_referred_16 (by decide) (fun c5 => ?_) (fun c5 => ?_)
      · refine sim_aload_n 0 rfl dX11_referred_21 ?_
        refine sim_bind (fun b6 e7 => ?_)
        refine sim_cV (As := []) (st := []) (r := none) (h1 := b6) (okX11_forgetFound h b6 e7) (fun _ => rfl) mlX11_219 mtX11_forgetFound rfl rfl rfl rfl (Nat.le_of_ble_eq_true rfl) rfl (Nat.le_of_ble_eq_true rfl) dX11_referred_22 ?_
        refine sim_iconst (v := 0) (by decide) dX11_referred_25 ?_
        refine sim_istore_n (L' := [(2, .int (0 : Int32)), (0, .ref 0), (1, .int p1)]) rfl (by decide) dX11_referred_26 ?_
        refine sim_sub [1, 2, 0] rfl ?_
        refine sX11_referred_l27 (fun g16 => ?_) _ (0 : Int32) b6
        · refine sim_aload_n 0 rfl dX11_referred_73 ?_
          refine sim_getR flX11_63 rfl rfl dX11_referred_74 ?_
          refine sim_iload_n 1 rfl dX11_referred_77 ?_
          refine sim_cS (As := [.ref 52, .int p1]) (st := []) (r := (some (.int (fX11_at 52 p1 g16)))) (h1 := g16) (okX11_at 52 rfl p1 g16) (fun _ => rfl) mlX11_164 mtX11_at rfl (Nat.le_of_ble_eq_true rfl) rfl (Nat.le_of_ble_eq_true rfl) dX11_referred_78 ?_
          exact sim_iret rfl rfl dX11_referred_81
      · refine sim_iconst (v := -1) (by decide) dX11_referred_19 ?_
        exact sim_iret rfl rfl dX11_referred_20
theorem okX11_referred (p1 : Int32) (h : AH) (b : Int32 × AH) (e : fX11_referred p1 h = some b) : Ok yX11_referred cX11_referred 3 (some .int) 6 [.ref 0, .int p1] h (some (.int b.1), b.2) := ok_of (sX11_referred p1 h) (by rw [e]; rfl) (by decide +kernel) (Nat.le_of_ble_eq_true rfl)
def fX4_lookAt (p2 : Int32) (p3 : Int32) (p4 : Int32) (h : AH) : AH :=
  letT (fX11_put 47 (0 : Int32) p2 h) (fun g1 =>
  letT (fX11_put 47 (1 : Int32) (fX11_at 8 p2 g1) g1) (fun g2 =>
  letT (fX11_put 47 (2 : Int32) p3 g2) (fun g3 =>
  letT (fX11_put 47 (3 : Int32) (fX11_at 11 p2 g3) g3) (fun g4 =>
  letT (fX11_put 47 (4 : Int32) (fX11_at 12 p2 g4) g4) (fun g5 =>
  letT (fX11_put 47 (5 : Int32) (g5.1 6 0) g5) (fun g6 =>
  letT (fX11_put 47 (6 : Int32) (g6.1 3 0) g6) (fun g7 =>
  letT (fX11_put 47 (7 : Int32) p4 g7) (fun g8 =>
  g8))))))))
theorem sX4_lookAt (p2 : Int32) (p3 : Int32) (p4 : Int32) (h : AH) : Sim RX4 cX4_lookAt 6 none 2 (tV) (fX4_lookAt p2 p3 p4 h) 0 [(0, .ref 42), (1, .ref 3), (2, .int p2), (3, .int p3), (4, .int p4)] [] h := by
  unfold fX4_lookAt
  refine sim_aload_n 1 rfl dX4_lookAt_0 ?_
  refine sim_getR flX4_59 rfl rfl dX4_lookAt_1 ?_
  refine sim_astore (L' := [(5, .ref 6), (0, .ref 42), (1, .ref 3), (2, .int p2), (3, .int p3), (4, .int p4)]) rfl (by decide) dX4_lookAt_4 ?_
  refine sim_aload_n 1 rfl dX4_lookAt_6 ?_
  refine sim_getR flX4_41 rfl rfl dX4_lookAt_7 ?_
  refine sim_iconst (v := 0) (by decide) dX4_lookAt_10 ?_
  refine sim_iload_n 3 rfl dX4_lookAt_11 ?_
  refine sim_cS (As := [.ref 47, .int (0 : Int32), .int p2]) (st := []) (r := none) (h1 := (fX11_put 47 (0 : Int32) p2 h)) (okX11_put 47 rfl (0 : Int32) p2 h) (fun _ => rfl) mlX4_51 mtX11_put rfl (Nat.le_of_ble_eq_true rfl) rfl (Nat.le_of_ble_eq_true rfl) dX4_lookAt_12 ?_
  refine sim_nmH (fun g1 => ?_)
  refine sim_aload_n 1 rfl dX4_lookAt_15 ?_
  refine sim_getR flX4_41 rfl rfl dX4_lookAt_16 ?_
  refine sim_iconst (v := 1) (by decide) dX4_lookAt_19 ?_
  refine sim_aload 0 rfl dX4_lookAt_20 ?_
  refine sim_getR flX4_65 rfl rfl dX4_lookAt_22 ?_
  refine sim_iload_n 3 rfl dX4_lookAt_25 ?_
  refine sim_cS (As := [.ref 8, .int p2]) (st := [.int (1 : Int32), .ref 47]) (r := (some (.int (fX11_at 8 p2 g1)))) (h1 := g1) (okX11_at 8 rfl p2 g1) (fun _ => rfl) mlX4_55 mtX11_at rfl (Nat.le_of_ble_eq_true rfl) rfl (Nat.le_of_ble_eq_true rfl) dX4_lookAt_26 ?_
  refine sim_cS (As := [.ref 47, .int (1 : Int32), .int (fX11_at 8 p2 g1)]) (st := []) (r := none) (h1 := (fX11_put 47 (1 : Int32) (fX11_at 8 p2 g1) g1)) (okX11_put 47 rfl (1 : Int32) (fX11_at 8 p2 g1) g1) (fun _ => rfl) mlX4_51 mtX11_put rfl (Nat.le_of_ble_eq_true rfl) rfl (Nat.le_of_ble_eq_true rfl) dX4_lookAt_29 ?_
  refine sim_nmH (fun g2 => ?_)
  refine sim_aload_n 1 rfl dX4_lookAt_32 ?_
  refine sim_getR flX4_41 rfl rfl dX4_lookAt_33 ?_
  refine sim_iconst (v := 2) (by decide) dX4_lookAt_36 ?_
  refine sim_iload_n 4 rfl dX4_lookAt_37 ?_
  refine sim_cS (As := [.ref 47, .int (2 : Int32), .int p3]) (st := []) (r := none) (h1 := (fX11_put 47 (2 : Int32) p3 g2)) (okX11_put 47 rfl (2 : Int32) p3 g2) (fun _ => rfl) mlX4_51 mtX11_put rfl (Nat.le_of_ble_eq_true rfl) rfl (Nat.le_of_ble_eq_true rfl) dX4_lookAt_38 ?_
  refine sim_nmH (fun g3 => ?_)
  refine sim_aload_n 1 rfl dX4_lookAt_41 ?_
  refine sim_getR flX4_41 rfl rfl dX4_lookAt_42 ?_
  refine sim_iconst (v := 3) (by decide) dX4_lookAt_45 ?_
  refine sim_aload 0 rfl dX4_lookAt_46 ?_
  refine sim_getR flX4_70 rfl rfl dX4_lookAt_48 ?_
  refine sim_iload_n 3 rfl dX4_lookAt_51 ?_
  refine sim_cS (As := [.ref 11, .int p2]) (st := [.int (3 : Int32), .ref 47]) (r := (some (.int (fX11_at 11 p2 g3)))) (h1 := g3) (okX11_at 11 rfl p2 g3) (fun _ => rfl) mlX4_55 mtX11_at rfl (Nat.le_of_ble_eq_true rfl) rfl (Nat.le_of_ble_eq_true rfl) dX4_lookAt_52 ?_
  refine sim_cS (As := [.ref 47, .int (3 : Int32), .int (fX11_at 11 p2 g3)]) (st := []) (r := none) (h1 := (fX11_put 47 (3 : Int32) (fX11_at 11 p2 g3) g3)) (okX11_put 47 rfl (3 : Int32) (fX11_at 11 p2 g3) g3) (fun _ => rfl) mlX4_51 mtX11_put rfl (Nat.le_of_ble_eq_true rfl) rfl (Nat.le_of_ble_eq_true rfl) dX4_lookAt_55 ?_
  refine sim_nmH (fun g4 => ?_)
  refine sim_aload_n 1 rfl dX4_lookAt_58 ?_
  refine sim_getR flX4_41 rfl rfl dX4_lookAt_59 ?_
  refine sim_iconst (v := 4) (by decide) dX4_lookAt_62 ?_
  refine sim_aload 0 rfl dX4_lookAt_63 ?_
  refine sim_getR flX4_73 rfl rfl dX4_lookAt_65 ?_
  refine sim_iload_n 3 rfl dX4_lookAt_68 ?_
  refine sim_cS (As := [.ref 12, .int p2]) (st := [.int (4 : Int32), .ref 47]) (r := (some (.int (fX11_at 12 p2 g4)))) (h1 := g4) (okX11_at 12 rfl p2 g4) (fun _ => rfl) mlX4_55 mtX11_at rfl (Nat.le_of_ble_eq_true rfl) rfl (Nat.le_of_ble_eq_true rfl) dX4_lookAt_69 ?_
  refine sim_cS (As := [.ref 47, .int (4 : Int32), .int (fX11_at 12 p2 g4)]) (st := []) (r := none) (h1 := (fX11_put 47 (4 : Int32) (fX11_at 12 p2 g4) g4)) (okX11_put 47 rfl (4 : Int32) (fX11_at 12 p2 g4) g4) (fun _ => rfl) mlX4_51 mtX11_put rfl (Nat.le_of_ble_eq_true rfl) rfl (Nat.le_of_ble_eq_true rfl) dX4_lookAt_72 ?_
  refine sim_nmH (fun g5 => ?_)
  refine sim_aload_n 1 rfl dX4_lookAt_75 ?_
  refine sim_getR flX4_41 rfl rfl dX4_lookAt_76 ?_
  refine sim_iconst (v := 5) (by decide) dX4_lookAt_79 ?_
  refine sim_aload 0 rfl dX4_lookAt_80 ?_
  refine sim_getI flX4_76 rfl rfl dX4_lookAt_82 ?_
  refine sim_cS (As := [.ref 47, .int (5 : Int32), .int (g5.1 6 0)]) (st := []) (r := none) (h1 := (fX11_put 47 (5 : Int32) (g5.1 6 0) g5)) (okX11_put 47 rfl (5 : Int32) (g5.1 6 0) g5) (fun _ => rfl) mlX4_51 mtX11_put rfl (Nat.le_of_ble_eq_true rfl) rfl (Nat.le_of_ble_eq_true rfl) dX4_lookAt_85 ?_
  refine sim_nmH (fun g6 => ?_)
  refine sim_aload_n 1 rfl dX4_lookAt_88 ?_
  refine sim_getR flX4_41 rfl rfl dX4_lookAt_89 ?_
  refine sim_bipush (v := 6) (by decide) dX4_lookAt_92 ?_
  refine sim_aload_n 2 rfl dX4_lookAt_94 ?_
  refine sim_getI flX4_79 rfl rfl dX4_lookAt_95 ?_
  refine sim_cS (As := [.ref 47, .int (6 : Int32), .int (g6.1 3 0)]) (st := []) (r := none) (h1 := (fX11_put 47 (6 : Int32) (g6.1 3 0) g6)) (okX11_put 47 rfl (6 : Int32) (g6.1 3 0) g6) (fun _ => rfl) mlX4_51 mtX11_put rfl (Nat.le_of_ble_eq_true rfl) rfl (Nat.le_of_ble_eq_true rfl) dX4_lookAt_98 ?_
  refine sim_nmH (fun g7 => ?_)
  refine sim_aload_n 1 rfl dX4_lookAt_101 ?_
  refine sim_getR flX4_41 rfl rfl dX4_lookAt_102 ?_
  refine sim_bipush (v := 7) (by decide) dX4_lookAt_105 ?_
  refine sim_iload 5 rfl dX4_lookAt_107 ?_
  refine sim_cS (As := [.ref 47, .int (7 : Int32), .int p4]) (st := []) (r := none) (h1 := (fX11_put 47 (7 : Int32) p4 g7)) (okX11_put 47 rfl (7 : Int32) p4 g7) (fun _ => rfl) mlX4_51 mtX11_put rfl (Nat.le_of_ble_eq_true rfl) rfl (Nat.le_of_ble_eq_true rfl) dX4_lookAt_109 ?_
  refine sim_nmH (fun g8 => ?_)
  exact sim_vret rfl rfl dX4_lookAt_112
theorem okX4_lookAt (p2 : Int32) (p3 : Int32) (p4 : Int32) (h : AH) : Ok yX4_lookAt cX4_lookAt 6 none 2 [.ref 42, .ref 3, .int p2, .int p3, .int p4] h (none, fX4_lookAt p2 p3 p4 h) := ok_of (sX4_lookAt p2 p3 p4 h) rfl (by decide +kernel) (Nat.le_of_ble_eq_true rfl)
def fX4_pop (h : AH) : Int32 × AH :=
  letT (sI h 42 4 (jmax (0 : Int32) ((h.1 42 4) - (1 : Int32)))) (fun g1 =>
  (fX11_at 48 (g1.1 42 4) g1, g1))
theorem sX4_pop (h : AH) : Sim RX4 cX4_pop 1 (some .int) 2 (tP) (fX4_pop h) 0 [(0, .ref 42)] [] h := by
  unfold fX4_pop
  refine sim_aload_n 0 rfl dX4_pop_0 ?_
  refine sim_iconst (v := 0) (by decide) dX4_pop_1 ?_
  refine sim_aload_n 0 rfl dX4_pop_2 ?_
  refine sim_getI flX4_25 rfl rfl dX4_pop_3 ?_
  refine sim_iconst (v := 1) (by decide) dX4_pop_6 ?_
  refine sim_isub dX4_pop_7 ?_
  refine sim_mmax (gtbl_of 907 (by decide +kernel) rfl) (by first | decide | omega) (Nat.le_of_ble_eq_true rfl) dX4_pop_8 ?_
  refine sim_putI fpX4_25 rfl rfl rfl rfl dX4_pop_11 ?_
  refine sim_nmH (fun g1 => ?_)
  refine sim_aload_n 0 rfl dX4_pop_14 ?_
  refine sim_getR flX4_44 rfl rfl dX4_pop_15 ?_
  refine sim_aload_n 0 rfl dX4_pop_18 ?_
  refine sim_getI flX4_25 rfl rfl dX4_pop_19 ?_
  refine sim_cS (As := [.ref 48, .int (g1.1 42 4)]) (st := []) (r := (some (.int (fX11_at 48 (g1.1 42 4) g1)))) (h1 := g1) (okX11_at 48 rfl (g1.1 42 4) g1) (fun _ => rfl) mlX4_55 mtX11_at rfl (Nat.le_of_ble_eq_true rfl) rfl (Nat.le_of_ble_eq_true rfl) dX4_pop_22 ?_
  exact sim_iret rfl rfl dX4_pop_25
theorem okX4_pop (h : AH) : Ok yX4_pop cX4_pop 1 (some .int) 2 [.ref 42] h (some (.int (fX4_pop h).1), (fX4_pop h).2) := ok_of (sX4_pop h) rfl (by decide +kernel) (Nat.le_of_ble_eq_true rfl)
def fX4_push (p1 : Int32) (h : AH) : AH :=
  letT (fX11_put 48 (h.1 42 4) p1 h) (fun g1 =>
  letT (sI g1 42 4 ((g1.1 42 4) + (1 : Int32))) (fun g2 =>
  g2))
theorem sX4_push (p1 : Int32) (h : AH) : Sim RX4 cX4_push 2 none 2 (tV) (fX4_push p1 h) 0 [(0, .ref 42), (1, .int p1)] [] h := by
  unfold fX4_push
  refine sim_aload_n 0 rfl dX4_push_0 ?_
  refine sim_getR flX4_44 rfl rfl dX4_push_1 ?_
  refine sim_aload_n 0 rfl dX4_push_4 ?_
  refine sim_getI flX4_25 rfl rfl dX4_push_5 ?_
  refine sim_iload_n 1 rfl dX4_push_8 ?_
  refine sim_cS (As := [.ref 48, .int (h.1 42 4), .int p1]) (st := []) (r := none) (h1 := (fX11_put 48 (h.1 42 4) p1 h)) (okX11_put 48 rfl (h.1 42 4) p1 h) (fun _ => rfl) mlX4_51 mtX11_put rfl (Nat.le_of_ble_eq_true rfl) rfl (Nat.le_of_ble_eq_true rfl) dX4_push_9 ?_
  refine sim_nmH (fun g1 => ?_)
  refine sim_aload_n 0 rfl dX4_push_12 ?_
  refine sim_dup dX4_push_13 rfl ?_
  refine sim_getI flX4_25 rfl rfl dX4_push_14 ?_
  refine sim_iconst (v := 1) (by decide) dX4_push_17 ?_
  refine sim_iadd dX4_push_18 ?_
  refine sim_putI fpX4_25 rfl rfl rfl rfl dX4_push_19 ?_
  refine sim_nmH (fun g2 => ?_)
  exact sim_vret rfl rfl dX4_push_22
theorem okX4_push (p1 : Int32) (h : AH) : Ok yX4_push cX4_push 2 none 2 [.ref 42, .int p1] h (none, fX4_push p1 h) := ok_of (sX4_push p1 h) rfl (by decide +kernel) (Nat.le_of_ble_eq_true rfl)
def fX4_joined (p1 : Int32) (p2 : Int32) (p3 : Int32) (h : AH) : Int32 × AH :=
  if p1 = 0 then
    (p2 + p3, h)
  else
  if p1 = 1 then
    (p2 - p3, h)
  else
  if p1 = 2 then
    (p2 * p3, h)
  else
  if p1 = 3 then
    if (h.1 42 3) = 0 then
      if p3 = 0 then
        letT (sI h 42 3 (1 : Int32)) (fun g11 =>
        if p3 = 0 then
          ((0 : Int32), g11)
        else
          (p2 / p3, g11))
      else
        letT (sI h 42 3 (0 : Int32)) (fun g9 =>
        if p3 = 0 then
          ((0 : Int32), g9)
        else
          (p2 / p3, g9))
    else
      letT (sI h 42 3 (1 : Int32)) (fun g6 =>
      if p3 = 0 then
        ((0 : Int32), g6)
      else
        (p2 / p3, g6))
  else
  if p1 = 4 then
    if (h.1 42 3) = 0 then
      if p3 = 0 then
        letT (sI h 42 3 (1 : Int32)) (fun g20 =>
        if p3 = 0 then
          ((0 : Int32), g20)
        else
          (jrem p2 p3, g20))
      else
        letT (sI h 42 3 (0 : Int32)) (fun g18 =>
        if p3 = 0 then
          ((0 : Int32), g18)
        else
          (jrem p2 p3, g18))
    else
      letT (sI h 42 3 (1 : Int32)) (fun g15 =>
      if p3 = 0 then
        ((0 : Int32), g15)
      else
        (jrem p2 p3, g15))
  else
  if p1 = 5 then
    if p2 < p3 then
      ((1 : Int32), h)
    else
      ((0 : Int32), h)
  else
  if p1 = 6 then
    if p3 < p2 then
      ((1 : Int32), h)
    else
      ((0 : Int32), h)
  else
  if p2 = p3 then
    ((1 : Int32), h)
  else
    ((0 : Int32), h)
theorem sX4_joined (p1 : Int32) (p2 : Int32) (p3 : Int32) (h : AH) : Sim RX4 cX4_joined 4 (some .int) 1 (tP) (fX4_joined p1 p2 p3 h) 0 [(0, .ref 42), (1, .int p1), (2, .int p2), (3, .int p3)] [] h := by
  unfold fX4_joined
  refine sim_iload_n 1 rfl dX4_joined_0 ?_
  refine sim_case (v := 0) (tgt := 44) (0) dX4_joined_1 (by decide) (by decide) (by decide) rfl (by decide) ?_ (fun c1 => ?_)
  · refine sim_iload_n 2 rfl dX4_joined_44 ?_
    refine sim_iload_n 3 rfl dX4_joined_45 ?_
    refine sim_iadd dX4_joined_46 ?_
    exact sim_iret rfl rfl dX4_joined_47
  refine sim_case (v := 1) (tgt := 48) (1) dX4_joined_1 (by decide) (by decide) (by decide) rfl (by decide) ?_ (fun c2 => ?_)
  · refine sim_iload_n 2 rfl dX4_joined_48 ?_
    refine sim_iload_n 3 rfl dX4_joined_49 ?_
    refine sim_isub dX4_joined_50 ?_
    exact sim_iret rfl rfl dX4_joined_51
  refine sim_case (v := 2) (tgt := 52) (2) dX4_joined_1 (by decide) (by decide) (by decide) rfl (by decide) ?_ (fun c3 => ?_)
  · refine sim_iload_n 2 rfl dX4_joined_52 ?_
    refine sim_iload_n 3 rfl dX4_joined_53 ?_
    refine sim_imul dX4_joined_54 ?_
    exact sim_iret rfl rfl dX4_joined_55
  refine sim_case (v := 3) (tgt := 56) (3) dX4_joined_1 (by decide) (by decide) (by decide) rfl (by decide) ?_ (fun c4 => ?_)
  · refine sim_aload_n 0 rfl dX4_joined_56 ?_
    refine sim_aload_n 0 rfl dX4_joined_57 ?_
    refine sim_getI flX4_22 rfl rfl dX4_joined_58 ?_
    refine sim_if_ne (tgt := 68) dX4_joined_61 (by decide) (fun c5 => ?_) (fun c5 => ?_)
    · refine sim_iconst (v := 1) (by decide) dX4_joined_68 ?_
      refine sim_goto (tgt := 73) dX4_joined_69 (by decide) ?_
      refine sim_putI fpX4_22 rfl rfl rfl rfl dX4_joined_73 ?_
      refine sim_nmH (fun g6 => ?_)
      refine sim_iload_n 3 rfl dX4_joined_76 ?_
      refine sim_if_ne (tgt := 84) dX4_joined_77 (by decide) (fun c7 => ?_) (fun c7 => ?_)
      · refine sim_iload_n 2 rfl dX4_joined_84 ?_
        refine sim_iload_n 3 rfl dX4_joined_85 ?_
        refine sim_idiv c7 dX4_joined_86 ?_
        exact sim_iret rfl rfl dX4_joined_87
      · refine sim_iconst (v := 0) (by decide) dX4_joined_80 ?_
        refine sim_goto (tgt := 87) dX4_joined_81 (by decide) ?_
        exact sim_iret rfl rfl dX4_joined_87
    · refine sim_iload_n 3 rfl dX4_joined_64 ?_
      refine sim_if_ne (tgt := 72) dX4_joined_65 (by decide) (fun c8 => ?_) (fun c8 => ?_)
      · refine sim_iconst (v := 0) (by decide) dX4_joined_72 ?_
        refine sim_putI fpX4_22 rfl rfl rfl rfl dX4_joined_73 ?_
        refine sim_nmH (fun g9 => ?_)
        refine sim_iload_n 3 rfl dX4_joined_76 ?_
        refine sim_if_ne (tgt := 84) dX4_joined_77 (by decide) (fun c10 => ?_) (fun c10 => ?_)
        · refine sim_iload_n 2 rfl dX4_joined_84 ?_
          refine sim_iload_n 3 rfl dX4_joined_85 ?_
          refine sim_idiv c8 dX4_joined_86 ?_
          exact sim_iret rfl rfl dX4_joined_87
        · refine sim_iconst (v := 0) (by decide) dX4_joined_80 ?_
          refine sim_goto (tgt := 87) dX4_joined_81 (by decide) ?_
          exact sim_iret rfl rfl dX4_joined_87
      · refine sim_iconst (v := 1) (by decide) dX4_joined_68 ?_
        refine sim_goto (tgt := 73) dX4_joined_69 (by decide) ?_
        refine sim_putI fpX4_22 rfl rfl rfl rfl dX4_joined_73 ?_
        refine sim_nmH (fun g11 => ?_)
        refine sim_iload_n 3 rfl dX4_joined_76 ?_
        refine sim_if_ne (tgt := 84) dX4_joined_77 (by decide) (fun c12 => ?_) (fun c12 => ?_)
        · refine sim_iload_n 2 rfl dX4_joined_84 ?_
          refine sim_iload_n 3 rfl dX4_joined_85 ?_
          refine sim_idiv c12 dX4_joined_86 ?_
          exact sim_iret rfl rfl dX4_joined_87
        · refine sim_iconst (v := 0) (by decide) dX4_joined_80 ?_
          refine sim_goto (tgt := 87) dX4_joined_81 (by decide) ?_
          exact sim_iret rfl rfl dX4_joined_87
  refine sim_case (v := 4) (tgt := 88) (4) dX4_joined_1 (by decide) (by decide) (by decide) rfl (by decide) ?_ (fun c13 => ?_)
  · refine sim_aload_n 0 rfl dX4_joined_88 ?_
    refine sim_aload_n 0 rfl dX4_joined_89 ?_
    refine sim_getI flX4_22 rfl rfl dX4_joined_90 ?_
    refine sim_if_ne (tgt := 100) dX4_joined_93 (by decide) (fun c14 => ?_) (fun c14 => ?_)
    · refine sim_iconst (v := 1) (by decide) dX4_joined_100 ?_
      refine sim_goto (tgt := 105) dX4_joined_101 (by decide) ?_
      refine sim_putI fpX4_22 rfl rfl rfl rfl dX4_joined_105 ?_
      refine sim_nmH (fun g15 => ?_)
      refine sim_iload_n 3 rfl dX4_joined_108 ?_
      refine sim_if_ne (tgt := 116) dX4_joined_109 (by decide) (fun c16 => ?_) (fun c16 => ?_)
      · refine sim_iload_n 2 rfl dX4_joined_116 ?_
        refine sim_iload_n 3 rfl dX4_joined_117 ?_
        refine sim_irem c16 dX4_joined_118 ?_
        exact sim_iret rfl rfl dX4_joined_119
      · refine sim_iconst (v := 0) (by decide) dX4_joined_112 ?_
        refine sim_goto (tgt := 119) dX4_joined_113 (by decide) ?_
        exact sim_iret rfl rfl dX4_joined_119
    · refine sim_iload_n 3 rfl dX4_joined_96 ?_
      refine sim_if_ne (tgt := 104) dX4_joined_97 (by decide) (fun c17 => ?_) (fun c17 => ?_)
      · refine sim_iconst (v := 0) (by decide) dX4_joined_104 ?_
        refine sim_putI fpX4_22 rfl rfl rfl rfl dX4_joined_105 ?_
        refine sim_nmH (fun g18 => ?_)
        refine sim_iload_n 3 rfl dX4_joined_108 ?_
        refine sim_if_ne (tgt := 116) dX4_joined_109 (by decide) (fun c19 => ?_) (fun c19 => ?_)
        · refine sim_iload_n 2 rfl dX4_joined_116 ?_
          refine sim_iload_n 3 rfl dX4_joined_117 ?_
          refine sim_irem c17 dX4_joined_118 ?_
          exact sim_iret rfl rfl dX4_joined_119
        · refine sim_iconst (v := 0) (by decide) dX4_joined_112 ?_
          refine sim_goto (tgt := 119) dX4_joined_113 (by decide) ?_
          exact sim_iret rfl rfl dX4_joined_119
      · refine sim_iconst (v := 1) (by decide) dX4_joined_100 ?_
        refine sim_goto (tgt := 105) dX4_joined_101 (by decide) ?_
        refine sim_putI fpX4_22 rfl rfl rfl rfl dX4_joined_105 ?_
        refine sim_nmH (fun g20 => ?_)
        refine sim_iload_n 3 rfl dX4_joined_108 ?_
        refine sim_if_ne (tgt := 116) dX4_joined_109 (by decide) (fun c21 => ?_) (fun c21 => ?_)
        · refine sim_iload_n 2 rfl dX4_joined_116 ?_
          refine sim_iload_n 3 rfl dX4_joined_117 ?_
          refine sim_irem c21 dX4_joined_118 ?_
          exact sim_iret rfl rfl dX4_joined_119
        · refine sim_iconst (v := 0) (by decide) dX4_joined_112 ?_
          refine sim_goto (tgt := 119) dX4_joined_113 (by decide) ?_
          exact sim_iret rfl rfl dX4_joined_119
  refine sim_case (v := 5) (tgt := 120) (5) dX4_joined_1 (by decide) (by decide) (by decide) rfl (by decide) ?_ (fun c22 => ?_)
  · refine sim_iload_n 2 rfl dX4_joined_120 ?_
    refine sim_iload_n 3 rfl dX4_joined_121 ?_
    refine sim_icmp_ge (tgt := 129) dX4_joined_122 (by decide) (fun c23 => ?_) (fun c23 => ?_)
    · refine sim_iconst (v := 0) (by decide) dX4_joined_129 ?_
      exact sim_iret rfl rfl dX4_joined_130
    · refine sim_iconst (v := 1) (by decide) dX4_joined_125 ?_
      refine sim_goto (tgt := 130) dX4_joined_126 (by decide) ?_
      exact sim_iret rfl rfl dX4_joined_130
  refine sim_case (v := 6) (tgt := 131) (6) dX4_joined_1 (by decide) (by decide) (by decide) rfl (by decide) ?_ (fun c24 => ?_)
  · refine sim_iload_n 2 rfl dX4_joined_131 ?_
    refine sim_iload_n 3 rfl dX4_joined_132 ?_
    refine sim_icmp_le (tgt := 140) dX4_joined_133 (by decide) (fun c25 => ?_) (fun c25 => ?_)
    · refine sim_iconst (v := 0) (by decide) dX4_joined_140 ?_
      exact sim_iret rfl rfl dX4_joined_141
    · refine sim_iconst (v := 1) (by decide) dX4_joined_136 ?_
      refine sim_goto (tgt := 141) dX4_joined_137 (by decide) ?_
      exact sim_iret rfl rfl dX4_joined_141
  refine sim_dflt (tgt := 142) dX4_joined_1 (by omega) (by decide) ?_
  refine sim_iload_n 2 rfl dX4_joined_142 ?_
  refine sim_iload_n 3 rfl dX4_joined_143 ?_
  refine sim_icmp_ne (tgt := 151) dX4_joined_144 (by decide) (fun c26 => ?_) (fun c26 => ?_)
  · refine sim_iconst (v := 0) (by decide) dX4_joined_151 ?_
    exact sim_iret rfl rfl dX4_joined_152
  · refine sim_iconst (v := 1) (by decide) dX4_joined_147 ?_
    refine sim_goto (tgt := 152) dX4_joined_148 (by decide) ?_
    exact sim_iret rfl rfl dX4_joined_152
theorem okX4_joined (p1 : Int32) (p2 : Int32) (p3 : Int32) (h : AH) : Ok yX4_joined cX4_joined 4 (some .int) 1 [.ref 42, .int p1, .int p2, .int p3] h (some (.int (fX4_joined p1 p2 p3 h).1), (fX4_joined p1 p2 p3 h).2) := ok_of (sX4_joined p1 p2 p3 h) rfl (by decide +kernel) (Nat.le_of_ble_eq_true rfl)
def fX4_run_l15b (rec : Int32 → Int32 → AH → Option (Int32 × AH)) (K194 : AH → Option (Int32 × AH)) (x2 : Int32) (x3 : Int32) (x4 : Int32) (h : AH) : Option (Int32 × AH) :=
  if x4 < (200 : Int32) then
    if x3 < x2 then
      if (h.1 42 3) = 0 then
        letT ((fX11_at 43 x3 h) &&& (15 : Int32)) (fun v6 =>
        letT (jshr (fX11_at 43 x3 h) (4 : Int32)) (fun v7 =>
        if v6 = 0 then
          letT (fX4_push v7 h) (fun g27 =>
          rec (x3 + 1) (x4 + 1) g27)
        else
          if v6 = (1 : Int32) then
            letT (fX4_push (fX11_at 47 v7 h) h) (fun g26 =>
            rec (x3 + 1) (x4 + 1) g26)
          else
            if v6 = (2 : Int32) then
              letT (fX4_pop h) (fun b24 =>
              letT (fX4_push ((1 : Int32) - b24.1) b24.2) (fun g25 =>
              rec (x3 + 1) (x4 + 1) g25))
            else
              letT (letT (fX4_pop h) (fun b12 =>
                if v6 = (4 : Int32) then
                  if b12.1 = (1 : Int32) then
                    letT (fX4_push b12.1 b12.2) (fun g17 =>
                    rec v7 (x4 + 1) g17)
                  else
                    rec (x3 + 1) (x4 + 1) b12.2
                else
                  if b12.1 = (0 : Int32) then
                    letT (fX4_push b12.1 b12.2) (fun g15 =>
                    rec v7 (x4 + 1) g15)
                  else
                    rec (x3 + 1) (x4 + 1) b12.2)) (fun J11 =>
              if v6 = (3 : Int32) then
                J11
              else
                if v6 = (4 : Int32) then
                  J11
                else
                  letT (fX4_pop h) (fun b20 =>
                  letT (fX4_pop b20.2) (fun b21 =>
                  letT (fX4_joined (v6 - (5 : Int32)) b21.1 b20.1 b21.2) (fun b22 =>
                  letT (fX4_push b22.1 b22.2) (fun g23 =>
                  rec (x3 + 1) (x4 + 1) g23)))))))
      else
        K194 h
    else
      K194 h
  else
    K194 h
def fX4_run_l15 (K194 : AH → Option (Int32 × AH)) (x2 : Int32) : Nat → Int32 → Int32 → AH → Option (Int32 × AH)
  | 0, _, _, _ => none
  | n + 1, x3, x4, h => fX4_run_l15b (fX4_run_l15 K194 x2 n) K194 x2 x3 x4 h
theorem sX4_run_l15b {rec : Int32 → Int32 → AH → Option (Int32 × AH)} {K194 : AH → Option (Int32 × AH)} {x2 : Int32} (hR : ∀ (x3 : Int32) (x4 : Int32) (h : AH), Sim RX4 cX4_run 8 (some .int) 3 (Option.map oI) (rec x3 x4 h) 15 [(0, .ref 42), (2, .int x2), (3, .int x3), (4, .int x4)] [] h) (hK194 : ∀ (g : AH), Sim RX4 cX4_run 8 (some .int) 3 (Option.map oI) (K194 g) 194 [(0, .ref 42)] [] g) : ∀ (x3 : Int32) (x4 : Int32) (h : AH), Sim RX4 cX4_run 8 (some .int) 3 (Option.map oI) (fX4_run_l15b rec K194 x2 x3 x4 h) 15 [(0, .ref 42), (2, .int x2), (3, .int x3), (4, .int x4)] [] h := by
  intro x3 x4 h
  unfold fX4_run_l15b
  refine sim_iload 3 rfl dX4_run_15 ?_
  refine sim_sipush (v := 200) (by decide) dX4_run_17 ?_
  refine sim_icmp_ge (tgt := 194) dX4_run_20 (by decide) (fun c3 => ?_) (fun c3 => ?_)
  · refine sim_sub [0] rfl ?_
    exact hK194 h
  · refine sim_iload_n 2 rfl dX4_run_23 ?_
    refine sim_iload_n 1 rfl dX4_run_24 ?_
    refine sim_icmp_ge (tgt := 194) dX4_run_25 (by decide) (fun c4 => ?_) (fun c4 => ?_)
    · refine sim_sub [0] rfl ?_
      exact hK194 h
    · refine sim_aload_n 0 rfl dX4_run_28 ?_
      refine sim_getI flX4_22 rfl rfl dX4_run_29 ?_
      refine sim_if_ne (tgt := 194) dX4_run_32 (by decide) (fun c5 => ?_) (fun c5 => ?_)
      · refine sim_sub [0] rfl ?_
        exact hK194 h
      · refine sim_aload_n 0 rfl dX4_run_35 ?_
        refine sim_getR flX4_28 rfl rfl dX4_run_36 ?_
        refine sim_iload_n 2 rfl dX4_run_39 ?_
        refine sim_cS (As := [.ref 43, .int x3]) (st := []) (r := (some (.int (fX11_at 43 x3 h)))) (h1 := h) (okX11_at 43 rfl x3 h) (fun _ => rfl) mlX4_55 mtX11_at rfl (Nat.le_of_ble_eq_true rfl) rfl (Nat.le_of_ble_eq_true rfl) dX4_run_40 ?_
        refine sim_bipush (v := 15) (by decide) dX4_run_43 ?_
        refine sim_iand dX4_run_45 ?_
        refine sim_nmI (fun v6 => ?_)
        refine sim_istore (L' := [(5, .int v6), (0, .ref 42), (2, .int x2), (3, .int x3), (4, .int x4)]) rfl (by decide) dX4_run_46 ?_
        refine sim_aload_n 1 rfl dX4_run_48 ?_
        refine sim_getR flX4_28 rfl rfl dX4_run_49 ?_
        refine sim_iload_n 3 rfl dX4_run_52 ?_
        refine sim_cS (As := [.ref 43, .int x3]) (st := []) (r := (some (.int (fX11_at 43 x3 h)))) (h1 := h) (okX11_at 43 rfl x3 h) (fun _ => rfl) mlX4_55 mtX11_at rfl (Nat.le_of_ble_eq_true rfl) rfl (Nat.le_of_ble_eq_true rfl) dX4_run_53 ?_
        refine sim_iconst (v := 4) (by decide) dX4_run_56 ?_
        refine sim_ishr dX4_run_57 ?_
        refine sim_nmI (fun v7 => ?_)
        refine sim_istore (L' := [(6, .int v7), (5, .int v6), (0, .ref 42), (2, .int x2), (3, .int x3), (4, .int x4)]) rfl (by decide) dX4_run_58 ?_
        refine sim_iinc (v := x3 + 1) (L' := [(3, .int (x3 + 1)), (6, .int v7), (5, .int v6), (0, .ref 42), (2, .int x2), (4, .int x4)]) 4 rfl rfl rfl (by decide) dX4_run_60 ?_
        refine sim_iload 2 rfl dX4_run_63 ?_
        refine sim_if_ne (tgt := 77) dX4_run_65 (by decide) (fun c8 => ?_) (fun c8 => ?_)
        · refine sim_iload 2 rfl dX4_run_77 ?_
          refine sim_iconst (v := 1) (by decide) dX4_run_79 ?_
          refine sim_icmp_ne (tgt := 99) dX4_run_80 (by decide) (fun c9 => ?_) (fun c9 => ?_)
          · refine sim_iload 2 rfl dX4_run_99 ?_
            refine sim_iconst (v := 2) (by decide) dX4_run_101 ?_
            refine sim_icmp_ne (tgt := 118) dX4_run_102 (by decide) (fun c10 => ?_) (fun c10 => ?_)
            · refine sim_iload 2 rfl dX4_run_118 ?_
              refine sim_iconst (v := 3) (by decide) dX4_run_120 ?_
              refine sim_letJ (fun J11 => Sim RX4 cX4_run 8 (some .int) 3 (Option.map oI) (J11) 130 [(0, .ref 42), (2, .int x2), (3, .int (x3 + 1)), (4, .int x4), (5, .int v6), (6, .int v7)] [] h) (?_) (fun J11 hJ11 => ?_)
              · refine sim_aload_n 0 rfl dX4_run_130 ?_
                refine sim_cV (As := []) (st := []) (r := (some (.int ((fX4_pop h).1)))) (h1 := (fX4_pop h).2) (okX4_pop h) (fun _ => rfl) mlX4_98 mtX4_pop rfl rfl rfl rfl (Nat.le_of_ble_eq_true rfl) rfl (Nat.le_of_ble_eq_true rfl) dX4_run_131 ?_
                refine sim_nmP (fun b12 => ?_)
                refine sim_istore (L' := [(7, .int b12.1), (0, .ref 42), (2, .int x2), (3, .int (x3 + 1)), (4, .int x4), (5, .int v6), (6, .int v7)]) rfl (by decide) dX4_run_134 ?_
                refine sim_iload 0 rfl dX4_run_136 ?_
                refine sim_iload 5 rfl dX4_run_138 ?_
                refine sim_iconst (v := 4) (by decide) dX4_run_140 ?_
                refine sim_icmp_ne (tgt := 148) dX4_run_141 (by decide) (fun c13 => ?_) (fun c13 => ?_)
                · refine sim_iconst (v := 0) (by decide) dX4_run_148 ?_
                  refine sim_icmp_ne (tgt := 161) dX4_run_149 (by decide) (fun c14 => ?_) (fun c14 => ?_)
                  · refine sim_goto (tgt := 188) dX4_run_161 (by decide) ?_
                    refine sim_iinc (v := x4 + 1) (L' := [(4, .int (x4 + 1)), (7, .int b12.1), (0, .ref 42), (2, .int x2), (3, .int (x3 + 1)), (5, .int v6), (6, .int v7)]) 4 rfl rfl rfl (by decide) dX4_run_188 ?_
                    refine sim_goto (tgt := 15) dX4_run_191 (by decide) ?_
                    refine sim_sub [2, 3, 4, 0] rfl ?_
                    exact hR (x3 + 1) (x4 + 1) b12.2
                  · refine sim_aload_n 1 rfl dX4_run_152 ?_
                    refine sim_iload 0 rfl dX4_run_153 ?_
                    refine sim_cV (As := [.int b12.1]) (st := []) (r := none) (h1 := (fX4_push b12.1 b12.2)) (okX4_push b12.1 b12.2) (fun _ => rfl) mlX4_94 mtX4_push rfl rfl rfl rfl (Nat.le_of_ble_eq_true rfl) rfl (Nat.le_of_ble_eq_true rfl) dX4_run_155 ?_
                    refine sim_nmH (fun g15 => ?_)
                    refine sim_iload 6 rfl dX4_run_158 ?_
                    refine sim_istore_n (L' := [(3, .int v7), (7, .int b12.1), (0, .ref 42), (2, .int x2), (4, .int x4), (5, .int v6), (6, .int v7)]) rfl (by decide) dX4_run_160 ?_
                    refine sim_goto (tgt := 188) dX4_run_161 (by decide) ?_
                    refine sim_iinc (v := x4 + 1) (L' := [(4, .int (x4 + 1)), (3, .int v7), (7, .int b12.1), (0, .ref 42), (2, .int x2), (5, .int v6), (6, .int v7)]) 4 rfl rfl rfl (by decide) dX4_run_188 ?_
                    refine sim_goto (tgt := 15) dX4_run_191 (by decide) ?_
                    refine sim_sub [3, 4, 1, 0] rfl ?_
                    exact hR v7 (x4 + 1) g15
                · refine sim_iconst (v := 1) (by decide) dX4_run_144 ?_
                  refine sim_goto (tgt := 149) dX4_run_145 (by decide) ?_
                  refine sim_icmp_ne (tgt := 161) dX4_run_149 (by decide) (fun c16 => ?_) (fun c16 => ?_)
                  · refine sim_goto (tgt := 188) dX4_run_161 (by decide) ?_
                    refine sim_iinc (v := x4 + 1) (L' := [(4, .int (x4 + 1)), (7, .int b12.1), (0, .ref 42), (2, .int x2), (3, .int (x3 + 1)), (5, .int v6), (6, .int v7)]) 4 rfl rfl rfl (by decide) dX4_run_188 ?_
                    refine sim_goto (tgt := 15) dX4_run_191 (by decide) ?_
                    refine sim_sub [2, 3, 4, 0] rfl ?_
                    exact hR (x3 + 1) (x4 + 1) b12.2
                  · refine sim_aload_n 1 rfl dX4_run_152 ?_
                    refine sim_iload 0 rfl dX4_run_153 ?_
                    refine sim_cV (As := [.int b12.1]) (st := []) (r := none) (h1 := (fX4_push b12.1 b12.2)) (okX4_push b12.1 b12.2) (fun _ => rfl) mlX4_94 mtX4_push rfl rfl rfl rfl (Nat.le_of_ble_eq_true rfl) rfl (Nat.le_of_ble_eq_true rfl) dX4_run_155 ?_
                    refine sim_nmH (fun g17 => ?_)
                    refine sim_iload 6 rfl dX4_run_158 ?_
                    refine sim_istore_n (L' := [(3, .int v7), (7, .int b12.1), (0, .ref 42), (2, .int x2), (4, .int x4), (5, .int v6), (6, .int v7)]) rfl (by decide) dX4_run_160 ?_
                    refine sim_goto (tgt := 188) dX4_run_161 (by decide) ?_
                    refine sim_iinc (v := x4 + 1) (L' := [(4, .int (x4 + 1)), (3, .int v7), (7, .int b12.1), (0, .ref 42), (2, .int x2), (5, .int v6), (6, .int v7)]) 4 rfl rfl rfl (by decide) dX4_run_188 ?_
                    refine sim_goto (tgt := 15) dX4_run_191 (by decide) ?_
                    refine sim_sub [3, 4, 1, 0] rfl ?_
                    exact hR v7 (x4 + 1) g17
              refine sim_icmp_eq (tgt := 130) dX4_run_121 (by decide) (fun c18 => ?_) (fun c18 => ?_)
              · refine sim_sub [3, 4, 0, 5, 2, 1] rfl ?_
                exact hJ11
              · refine sim_iload 2 rfl dX4_run_124 ?_
                refine sim_iconst (v := 4) (by decide) dX4_run_126 ?_
                refine sim_icmp_ne (tgt := 164) dX4_run_127 (by decide) (fun c19 => ?_) (fun c19 => ?_)
                · refine sim_aload_n 3 rfl dX4_run_164 ?_
                  refine sim_cV (As := []) (st := []) (r := (some (.int ((fX4_pop h).1)))) (h1 := (fX4_pop h).2) (okX4_pop h) (fun _ => rfl) mlX4_98 mtX4_pop rfl rfl rfl rfl (Nat.le_of_ble_eq_true rfl) rfl (Nat.le_of_ble_eq_true rfl) dX4_run_165 ?_
                  refine sim_nmP (fun b20 => ?_)
                  refine sim_istore (L' := [(7, .int b20.1), (3, .int (x3 + 1)), (6, .int v7), (5, .int v6), (0, .ref 42), (2, .int x2), (4, .int x4)]) rfl (by decide) dX4_run_168 ?_
                  refine sim_aload_n 4 rfl dX4_run_170 ?_
                  refine sim_aload_n 4 rfl dX4_run_171 ?_
                  refine sim_iload 3 rfl dX4_run_172 ?_
                  refine sim_iconst (v := 5) (by decide) dX4_run_174 ?_
                  refine sim_isub dX4_run_175 ?_
                  refine sim_aload_n 4 rfl dX4_run_176 ?_
                  refine sim_cV (As := []) (st := [.int (v6 - (5 : Int32)), .ref 42, .ref 42]) (r := (some (.int ((fX4_pop b20.2).1)))) (h1 := (fX4_pop b20.2).2) (okX4_pop b20.2) (fun _ => rfl) mlX4_98 mtX4_pop rfl rfl rfl rfl (Nat.le_of_ble_eq_true rfl) rfl (Nat.le_of_ble_eq_true rfl) dX4_run_177 ?_
                  refine sim_nmP (fun b21 => ?_)
                  refine sim_iload 0 rfl dX4_run_180 ?_
                  refine sim_cV (As := [.int (v6 - (5 : Int32)), .int b21.1, .int b20.1]) (st := [.ref 42]) (r := (some (.int ((fX4_joined (v6 - (5 : Int32)) b21.1 b20.1 b21.2).1)))) (h1 := (fX4_joined (v6 - (5 : Int32)) b21.1 b20.1 b21.2).2) (okX4_joined (v6 - (5 : Int32)) b21.1 b20.1 b21.2) (fun _ => rfl) mlX4_102 mtX4_joined rfl rfl rfl rfl (Nat.le_of_ble_eq_true rfl) rfl (Nat.le_of_ble_eq_true rfl) dX4_run_182 ?_
                  refine sim_nmP (fun b22 => ?_)
                  refine sim_cV (As := [.int b22.1]) (st := []) (r := none) (h1 := (fX4_push b22.1 b22.2)) (okX4_push b22.1 b22.2) (fun _ => rfl) mlX4_94 mtX4_push rfl rfl rfl rfl (Nat.le_of_ble_eq_true rfl) rfl (Nat.le_of_ble_eq_true rfl) dX4_run_185 ?_
                  refine sim_nmH (fun g23 => ?_)
                  refine sim_iinc (v := x4 + 1) (L' := [(4, .int (x4 + 1)), (7, .int b20.1), (3, .int (x3 + 1)), (6, .int v7), (5, .int v6), (0, .ref 42), (2, .int x2)]) 6 rfl rfl rfl (by decide) dX4_run_188 ?_
                  refine sim_goto (tgt := 15) dX4_run_191 (by decide) ?_
                  refine sim_sub [5, 6, 2, 0] rfl ?_
                  exact hR (x3 + 1) (x4 + 1) g23
                · refine sim_sub [3, 4, 0, 5, 2, 1] rfl ?_
                  exact hJ11
            · refine sim_aload_n 3 rfl dX4_run_105 ?_
              refine sim_iconst (v := 1) (by decide) dX4_run_106 ?_
              refine sim_aload_n 3 rfl dX4_run_107 ?_
              refine sim_cV (As := []) (st := [.int (1 : Int32), .ref 42]) (r := (some (.int ((fX4_pop h).1)))) (h1 := (fX4_pop h).2) (okX4_pop h) (fun _ => rfl) mlX4_98 mtX4_pop rfl rfl rfl rfl (Nat.le_of_ble_eq_true rfl) rfl (Nat.le_of_ble_eq_true rfl) dX4_run_108 ?_
              refine sim_nmP (fun b24 => ?_)
              refine sim_isub dX4_run_111 ?_
              refine sim_cV (As := [.int ((1 : Int32) - b24.1)]) (st := []) (r := none) (h1 := (fX4_push ((1 : Int32) - b24.1) b24.2)) (okX4_push ((1 : Int32) - b24.1) b24.2) (fun _ => rfl) mlX4_94 mtX4_push rfl rfl rfl rfl (Nat.le_of_ble_eq_true rfl) rfl (Nat.le_of_ble_eq_true rfl) dX4_run_112 ?_
              refine sim_nmH (fun g25 => ?_)
              refine sim_goto (tgt := 188) dX4_run_115 (by decide) ?_
              refine sim_iinc (v := x4 + 1) (L' := [(4, .int (x4 + 1)), (3, .int (x3 + 1)), (6, .int v7), (5, .int v6), (0, .ref 42), (2, .int x2)]) 5 rfl rfl rfl (by decide) dX4_run_188 ?_
              refine sim_goto (tgt := 15) dX4_run_191 (by decide) ?_
              refine sim_sub [4, 5, 1, 0] rfl ?_
              exact hR (x3 + 1) (x4 + 1) g25
          · refine sim_aload_n 3 rfl dX4_run_83 ?_
            refine sim_aload_n 3 rfl dX4_run_84 ?_
            refine sim_getR flX4_41 rfl rfl dX4_run_85 ?_
            refine sim_iload 1 rfl dX4_run_88 ?_
            refine sim_cS (As := [.ref 47, .int v7]) (st := [.ref 42]) (r := (some (.int (fX11_at 47 v7 h)))) (h1 := h) (okX11_at 47 rfl v7 h) (fun _ => rfl) mlX4_55 mtX11_at rfl (Nat.le_of_ble_eq_true rfl) rfl (Nat.le_of_ble_eq_true rfl) dX4_run_90 ?_
            refine sim_cV (As := [.int (fX11_at 47 v7 h)]) (st := []) (r := none) (h1 := (fX4_push (fX11_at 47 v7 h) h)) (okX4_push (fX11_at 47 v7 h) h) (fun _ => rfl) mlX4_94 mtX4_push rfl rfl rfl rfl (Nat.le_of_ble_eq_true rfl) rfl (Nat.le_of_ble_eq_true rfl) dX4_run_93 ?_
            refine sim_nmH (fun g26 => ?_)
            refine sim_goto (tgt := 188) dX4_run_96 (by decide) ?_
            refine sim_iinc (v := x4 + 1) (L' := [(4, .int (x4 + 1)), (3, .int (x3 + 1)), (6, .int v7), (5, .int v6), (0, .ref 42), (2, .int x2)]) 5 rfl rfl rfl (by decide) dX4_run_188 ?_
            refine sim_goto (tgt := 15) dX4_run_191 (by decide) ?_
            refine sim_sub [4, 5, 1, 0] rfl ?_
            exact hR (x3 + 1) (x4 + 1) g26
        · refine sim_aload_n 3 rfl dX4_run_68 ?_
          refine sim_iload 1 rfl dX4_run_69 ?_
          refine sim_cV (As := [.int v7]) (st := []) (r := none) (h1 := (fX4_push v7 h)) (okX4_push v7 h) (fun _ => rfl) mlX4_94 mtX4_push rfl rfl rfl rfl (Nat.le_of_ble_eq_true rfl) rfl (Nat.le_of_ble_eq_true rfl) dX4_run_71 ?_
          refine sim_nmH (fun g27 => ?_)
          refine sim_goto (tgt := 188) dX4_run_74 (by decide) ?_
          refine sim_iinc (v := x4 + 1) (L' := [(4, .int (x4 + 1)), (3, .int (x3 + 1)), (6, .int v7), (5, .int v6), (0, .ref 42), (2, .int x2)]) 5 rfl rfl rfl (by decide) dX4_run_188 ?_
          refine sim_goto (tgt := 15) dX4_run_191 (by decide) ?_
          refine sim_sub [4, 5, 1, 0] rfl ?_
          exact hR (x3 + 1) (x4 + 1) g27
theorem sX4_run_l15 {K194 : AH → Option (Int32 × AH)} {x2 : Int32} (hK194 : ∀ (g : AH), Sim RX4 cX4_run 8 (some .int) 3 (Option.map oI) (K194 g) 194 [(0, .ref 42)] [] g) : ∀ (n : Nat) (x3 : Int32) (x4 : Int32) (h : AH), Sim RX4 cX4_run 8 (some .int) 3 (Option.map oI) (fX4_run_l15 K194 x2 n x3 x4 h) 15 [(0, .ref 42), (2, .int x2), (3, .int x3), (4, .int x4)] [] h := by
  intro n
  induction n with
  | zero => intro x3 x4 h; exact sim_none
  | succ n ih => intro x3 x4 h; exact sX4_run_l15b ih hK194 x3 x4 h
def fX4_run (p1 : Int32) (p2 : Int32) (h : AH) : Option (Int32 × AH) :=
  letT (sI h 42 3 (0 : Int32)) (fun g1 =>
  letT (sI g1 42 4 (0 : Int32)) (fun g2 =>
  fX4_run_l15 (fun (g28 : AH) =>
    if (g28.1 42 3) = 0 then
      letT (fX4_pop g28) (fun b30 =>
      some (b30.1, b30.2))
    else
      some ((0 : Int32), g28)) p2 fuel0 p1 (0 : Int32) g2))
theorem sX4_run (p1 : Int32) (p2 : Int32) (h : AH) : Sim RX4 cX4_run 8 (some .int) 3 (Option.map oI) (fX4_run p1 p2 h) 0 [(0, .ref 42), (1, .int p1), (2, .int p2)] [] h := by
  unfold fX4_run
  refine sim_aload_n 0 rfl dX4_run_0 ?_
  refine sim_iconst (v := 0) (by decide) dX4_run_1 ?_
  refine sim_putI fpX4_22 rfl rfl rfl rfl dX4_run_2 ?_
  refine sim_nmH (fun g1 => ?_)
  refine sim_aload_n 0 rfl dX4_run_5 ?_
  refine sim_iconst (v := 0) (by decide) dX4_run_6 ?_
  refine sim_putI fpX4_25 rfl rfl rfl rfl dX4_run_7 ?_
  refine sim_nmH (fun g2 => ?_)
  refine sim_iload_n 1 rfl dX4_run_10 ?_
  refine sim_istore_n (L' := [(3, .int p1), (0, .ref 42), (1, .int p1), (2, .int p2)]) rfl (by decide) dX4_run_11 ?_
  refine sim_iconst (v := 0) (by decide) dX4_run_12 ?_
  refine sim_istore (L' := [(4, .int (0 : Int32)), (3, .int p1), (0, .ref 42), (1, .int p1), (2, .int p2)]) rfl (by decide) dX4_run_13 ?_
  refine sim_sub [2, 4, 1, 0] rfl ?_
  refine sX4_run_l15 (fun g28 => ?_) _ p1 (0 : Int32) g2
  · refine sim_aload_n 0 rfl dX4_run_194 ?_
    refine sim_getI flX4_22 rfl rfl dX4_run_195 ?_
    refine sim_if_eq (tgt := 205) dX4_run_198 (by decide) (fun c29 => ?_) (fun c29 => ?_)
    · refine sim_aload_n 0 rfl dX4_run_205 ?_
      refine sim_cV (As := []) (st := []) (r := (some (.int ((fX4_pop g28).1)))) (h1 := (fX4_pop g28).2) (okX4_pop g28) (fun _ => rfl) mlX4_98 mtX4_pop rfl rfl rfl rfl (Nat.le_of_ble_eq_true rfl) rfl (Nat.le_of_ble_eq_true rfl) dX4_run_206 ?_
      refine sim_nmP (fun b30 => ?_)
      exact sim_iret rfl rfl dX4_run_209
    · refine sim_iconst (v := 0) (by decide) dX4_run_201 ?_
      refine sim_goto (tgt := 209) dX4_run_202 (by decide) ?_
      exact sim_iret rfl rfl dX4_run_209
theorem okX4_run (p1 : Int32) (p2 : Int32) (h : AH) (b : Int32 × AH) (e : fX4_run p1 p2 h = some b) : Ok yX4_run cX4_run 8 (some .int) 3 [.ref 42, .int p1, .int p2] h (some (.int b.1), b.2) := ok_of (sX4_run p1 p2 h) (by rw [e]; rfl) (by decide +kernel) (Nat.le_of_ble_eq_true rfl)
def fX4_conditionHolds (p1 : Int32) (h : AH) : Option (Int32 × AH) :=
  (fX4_run (fX11_at 46 p1 h) (fX11_at 45 (p1 + (1 : Int32)) h) h).bind (fun b1 =>
  if b1.1 = 0 then
    some ((0 : Int32), b1.2)
  else
    some ((1 : Int32), b1.2))
theorem sX4_conditionHolds (p1 : Int32) (h : AH) : Sim RX4 cX4_conditionHolds 2 (some .boolean) 4 (Option.map oI) (fX4_conditionHolds p1 h) 0 [(0, .ref 42), (1, .int p1)] [] h := by
  unfold fX4_conditionHolds
  refine sim_aload_n 0 rfl dX4_conditionHolds_0 ?_
  refine sim_aload_n 0 rfl dX4_conditionHolds_1 ?_
  refine sim_getR flX4_38 rfl rfl dX4_conditionHolds_2 ?_
  refine sim_iload_n 1 rfl dX4_conditionHolds_5 ?_
  refine sim_cS (As := [.ref 46, .int p1]) (st := [.ref 42]) (r := (some (.int (fX11_at 46 p1 h)))) (h1 := h) (okX11_at 46 rfl p1 h) (fun _ => rfl) mlX4_55 mtX11_at rfl (Nat.le_of_ble_eq_true rfl) rfl (Nat.le_of_ble_eq_true rfl) dX4_conditionHolds_6 ?_
  refine sim_aload_n 0 rfl dX4_conditionHolds_9 ?_
  refine sim_getR flX4_35 rfl rfl dX4_conditionHolds_10 ?_
  refine sim_iload_n 1 rfl dX4_conditionHolds_13 ?_
  refine sim_iconst (v := 1) (by decide) dX4_conditionHolds_14 ?_
  refine sim_iadd dX4_conditionHolds_15 ?_
  refine sim_cS (As := [.ref 45, .int (p1 + (1 : Int32))]) (st := [.int (fX11_at 46 p1 h), .ref 42]) (r := (some (.int (fX11_at 45 (p1 + (1 : Int32)) h)))) (h1 := h) (okX11_at 45 rfl (p1 + (1 : Int32)) h) (fun _ => rfl) mlX4_55 mtX11_at rfl (Nat.le_of_ble_eq_true rfl) rfl (Nat.le_of_ble_eq_true rfl) dX4_conditionHolds_16 ?_
  refine sim_bind (fun b1 e2 => ?_)
  refine sim_cV (As := [.int (fX11_at 46 p1 h), .int (fX11_at 45 (p1 + (1 : Int32)) h)]) (st := []) (r := (some (.int b1.1))) (h1 := b1.2) (okX4_run (fX11_at 46 p1 h) (fX11_at 45 (p1 + (1 : Int32)) h) h b1 e2) (fun _ => rfl) mlX4_86 mtX4_run rfl rfl rfl rfl (Nat.le_of_ble_eq_true rfl) rfl (Nat.le_of_ble_eq_true rfl) dX4_conditionHolds_19 ?_
  refine sim_if_eq (tgt := 29) dX4_conditionHolds_22 (by decide) (fun c3 => ?_) (fun c3 => ?_)
  · refine sim_iconst (v := 0) (by decide) dX4_conditionHolds_29 ?_
    exact sim_zret rfl rfl rfl dX4_conditionHolds_30
  · refine sim_iconst (v := 1) (by decide) dX4_conditionHolds_25 ?_
    refine sim_goto (tgt := 30) dX4_conditionHolds_26 (by decide) ?_
    exact sim_zret rfl rfl rfl dX4_conditionHolds_30
theorem okX4_conditionHolds (p1 : Int32) (h : AH) (b : Int32 × AH) (e : fX4_conditionHolds p1 h = some b) : Ok yX4_conditionHolds cX4_conditionHolds 2 (some .boolean) 4 [.ref 42, .int p1] h (some (.int b.1), b.2) := ok_of (sX4_conditionHolds p1 h) (by rw [e]; rfl) (by decide +kernel) (Nat.le_of_ble_eq_true rfl)
def fX4_isRead_l2b (rec : Int32 → AH → Option (Int32 × AH)) (x1 : Int32) (h : AH) : Option (Int32 × AH) :=
  if x1 < (h.1 42 0) then
    if (fX11_at 44 x1 h) = (114 : Int32) then
      (fX4_conditionHolds x1 h).bind (fun b3 =>
      if b3.1 = 0 then
        rec (x1 + 1) b3.2
      else
        some ((1 : Int32), b3.2))
    else
      rec (x1 + 1) h
  else
    some ((0 : Int32), h)
def fX4_isRead_l2 : Nat → Int32 → AH → Option (Int32 × AH)
  | 0, _, _ => none
  | n + 1, x1, h => fX4_isRead_l2b (fX4_isRead_l2 n) x1 h
theorem sX4_isRead_l2b {rec : Int32 → AH → Option (Int32 × AH)} (hR : ∀ (x1 : Int32) (h : AH), Sim RX4 cX4_isRead 2 (some .boolean) 5 (Option.map oI) (rec x1 h) 2 [(0, .ref 42), (1, .int x1)] [] h) : ∀ (x1 : Int32) (h : AH), Sim RX4 cX4_isRead 2 (some .boolean) 5 (Option.map oI) (fX4_isRead_l2b rec x1 h) 2 [(0, .ref 42), (1, .int x1)] [] h := by
  intro x1 h
  unfold fX4_isRead_l2b
  refine sim_iload_n 1 rfl dX4_isRead_2 ?_
  refine sim_aload_n 0 rfl dX4_isRead_3 ?_
  refine sim_getI flX4_9 rfl rfl dX4_isRead_4 ?_
  refine sim_icmp_ge (tgt := 39) dX4_isRead_7 (by decide) (fun c1 => ?_) (fun c1 => ?_)
  · refine sim_iconst (v := 0) (by decide) dX4_isRead_39 ?_
    exact sim_zret rfl rfl rfl dX4_isRead_40
  · refine sim_aload_n 0 rfl dX4_isRead_10 ?_
    refine sim_getR flX4_32 rfl rfl dX4_isRead_11 ?_
    refine sim_iload_n 1 rfl dX4_isRead_14 ?_
    refine sim_cS (As := [.ref 44, .int x1]) (st := []) (r := (some (.int (fX11_at 44 x1 h)))) (h1 := h) (okX11_at 44 rfl x1 h) (fun _ => rfl) mlX4_55 mtX11_at rfl (Nat.le_of_ble_eq_true rfl) rfl (Nat.le_of_ble_eq_true rfl) dX4_isRead_15 ?_
    refine sim_bipush (v := 114) (by decide) dX4_isRead_18 ?_
    refine sim_icmp_ne (tgt := 33) dX4_isRead_20 (by decide) (fun c2 => ?_) (fun c2 => ?_)
    · refine sim_iinc (v := x1 + 1) (L' := [(1, .int (x1 + 1)), (0, .ref 42)]) 1 rfl rfl rfl (by decide) dX4_isRead_33 ?_
      refine sim_goto (tgt := 2) dX4_isRead_36 (by decide) ?_
      refine sim_sub [1, 0] rfl ?_
      exact hR (x1 + 1) h
    · refine sim_aload_n 0 rfl dX4_isRead_23 ?_
      refine sim_iload_n 1 rfl dX4_isRead_24 ?_
      refine sim_bind (fun b3 e4 => ?_)
      refine sim_cV (As := [.int x1]) (st := []) (r := (some (.int b3.1))) (h1 := b3.2) (okX4_conditionHolds x1 h b3 e4) (fun _ => rfl) mlX4_82 mtX4_conditionHolds rfl rfl rfl rfl (Nat.le_of_ble_eq_true rfl) rfl (Nat.le_of_ble_eq_true rfl) dX4_isRead_25 ?_
      refine sim_if_eq (tgt := 33) dX4_isRead_28 (by decide) (fun c5 => ?_) (fun c5 => ?_)
      · refine sim_iinc (v := x1 + 1) (L' := [(1, .int (x1 + 1)), (0, .ref 42)]) 1 rfl rfl rfl (by decide) dX4_isRead_33 ?_
        refine sim_goto (tgt := 2) dX4_isRead_36 (by decide) ?_
        refine sim_sub [1, 0] rfl ?_
        exact hR (x1 + 1) b3.2
      · refine sim_iconst (v := 1) (by decide) dX4_isRead_31 ?_
        exact sim_zret rfl rfl rfl dX4_isRead_32
theorem sX4_isRead_l2 : ∀ (n : Nat) (x1 : Int32) (h : AH), Sim RX4 cX4_isRead 2 (some .boolean) 5 (Option.map oI) (fX4_isRead_l2 n x1 h) 2 [(0, .ref 42), (1, .int x1)] [] h := by
  intro n
  induction n with
  | zero => intro x1 h; exact sim_none
  | succ n ih => intro x1 h; exact sX4_isRead_l2b ih x1 h
def fX4_isRead (h : AH) : Option (Int32 × AH) :=
  fX4_isRead_l2 fuel0 (0 : Int32) h
theorem sX4_isRead (h : AH) : Sim RX4 cX4_isRead 2 (some .boolean) 5 (Option.map oI) (fX4_isRead h) 0 [(0, .ref 42)] [] h := by
  unfold fX4_isRead
  refine sim_iconst (v := 0) (by decide) dX4_isRead_0 ?_
  refine sim_istore_n (L' := [(1, .int (0 : Int32)), (0, .ref 42)]) rfl (by decide) dX4_isRead_1 ?_
  refine sim_sub [1, 0] rfl ?_
  refine sX4_isRead_l2 _ (0 : Int32) h
theorem okX4_isRead (h : AH) (b : Int32 × AH) (e : fX4_isRead h = some b) : Ok yX4_isRead cX4_isRead 2 (some .boolean) 5 [.ref 42] h (some (.int b.1), b.2) := ok_of (sX4_isRead h) (by rw [e]; rfl) (by decide +kernel) (Nat.le_of_ble_eq_true rfl)
def fX11_linesReadBy_l4b (rec : Int32 → Int32 → AH → Option (Int32 × AH)) (x1 : Int32) (x2 : Int32) (x3 : Int32) (h : AH) : Option (Int32 × AH) :=
  if x3 < (h.1 6 0) then
    letT (fX4_lookAt x3 (fX9_claimOf x3 h) x1 h) (fun g2 =>
    (fX4_isRead g2).bind (fun b3 =>
    if b3.1 = 0 then
      rec x2 (x3 + 1) b3.2
    else
      letT (x2 ||| (fX11_bit x3 b3.2)) (fun v6 =>
      rec v6 (x3 + 1) b3.2)))
  else
    some (x2, h)
def fX11_linesReadBy_l4 (x1 : Int32) : Nat → Int32 → Int32 → AH → Option (Int32 × AH)
  | 0, _, _, _ => none
  | n + 1, x2, x3, h => fX11_linesReadBy_l4b (fX11_linesReadBy_l4 x1 n) x1 x2 x3 h
theorem sX11_linesReadBy_l4b {rec : Int32 → Int32 → AH → Option (Int32 × AH)} {x1 : Int32} (hR : ∀ (x2 : Int32) (x3 : Int32) (h : AH), Sim RX11 cX11_linesReadBy 4 (some .int) 6 (Option.map oI) (rec x2 x3 h) 4 [(0, .ref 0), (1, .int x1), (2, .int x2), (3, .int x3)] [] h) : ∀ (x2 : Int32) (x3 : Int32) (h : AH), Sim RX11 cX11_linesReadBy 4 (some .int) 6 (Option.map oI) (fX11_linesReadBy_l4b rec x1 x2 x3 h) 4 [(0, .ref 0), (1, .int x1), (2, .int x2), (3, .int x3)] [] h := by
  intro x2 x3 h
  unfold fX11_linesReadBy_l4b
  refine sim_iload_n 3 rfl dX11_linesReadBy_4 ?_
  refine sim_aload_n 0 rfl dX11_linesReadBy_5 ?_
  refine sim_getR flX11_19 rfl rfl dX11_linesReadBy_6 ?_
  refine sim_getR flX11_133 rfl rfl dX11_linesReadBy_9 ?_
  refine sim_getI flX11_198 rfl rfl dX11_linesReadBy_12 ?_
  refine sim_icmp_ge (tgt := 62) dX11_linesReadBy_15 (by decide) (fun c1 => ?_) (fun c1 => ?_)
  · refine sim_iload_n 2 rfl dX11_linesReadBy_62 ?_
    exact sim_iret rfl rfl dX11_linesReadBy_63
  · refine sim_aload_n 0 rfl dX11_linesReadBy_18 ?_
    refine sim_getR flX11_49 rfl rfl dX11_linesReadBy_19 ?_
    refine sim_aload_n 0 rfl dX11_linesReadBy_22 ?_
    refine sim_getR flX11_19 rfl rfl dX11_linesReadBy_23 ?_
    refine sim_iload_n 3 rfl dX11_linesReadBy_26 ?_
    refine sim_aload_n 0 rfl dX11_linesReadBy_27 ?_
    refine sim_getR flX11_19 rfl rfl dX11_linesReadBy_28 ?_
    refine sim_iload_n 3 rfl dX11_linesReadBy_31 ?_
    refine sim_cV (As := [.int x3]) (st := [.int x3, .ref 3, .ref 42]) (r := (some (.int (fX9_claimOf x3 h)))) (h1 := h) (okX9_claimOf x3 h) (fun _ => rfl) mlX11_158 mtX9_claimOf rfl rfl rfl rfl (Nat.le_of_ble_eq_true rfl) rfl (Nat.le_of_ble_eq_true rfl) dX11_linesReadBy_32 ?_
    refine sim_iload_n 1 rfl dX11_linesReadBy_35 ?_
    refine sim_cV (As := [.ref 3, .int x3, .int (fX9_claimOf x3 h), .int x1]) (st := []) (r := none) (h1 := (fX4_lookAt x3 (fX9_claimOf x3 h) x1 h)) (okX4_lookAt x3 (fX9_claimOf x3 h) x1 h) (fun _ => rfl) mlX11_348 mtX4_lookAt rfl rfl rfl rfl (Nat.le_of_ble_eq_true rfl) rfl (Nat.le_of_ble_eq_true rfl) dX11_linesReadBy_36 ?_
    refine sim_nmH (fun g2 => ?_)
    refine sim_aload_n 0 rfl dX11_linesReadBy_39 ?_
    refine sim_getR flX11_49 rfl rfl dX11_linesReadBy_40 ?_
    refine sim_bind (fun b3 e4 => ?_)
    refine sim_cV (As := []) (st := []) (r := (some (.int b3.1))) (h1 := b3.2) (okX4_isRead g2 b3 e4) (fun _ => rfl) mlX11_352 mtX4_isRead rfl rfl rfl rfl (Nat.le_of_ble_eq_true rfl) rfl (Nat.le_of_ble_eq_true rfl) dX11_linesReadBy_43 ?_
    refine sim_if_eq (tgt := 56) dX11_linesReadBy_46 (by decide) (fun c5 => ?_) (fun c5 => ?_)
    · refine sim_iinc (v := x3 + 1) (L' := [(3, .int (x3 + 1)), (0, .ref 0), (1, .int x1), (2, .int x2)]) 3 rfl rfl rfl (by decide) dX11_linesReadBy_56 ?_
      refine sim_goto (tgt := 4) dX11_linesReadBy_59 (by decide) ?_
      refine sim_sub [1, 2, 3, 0] rfl ?_
      exact hR x2 (x3 + 1) b3.2
    · refine sim_iload_n 2 rfl dX11_linesReadBy_49 ?_
      refine sim_iload_n 3 rfl dX11_linesReadBy_50 ?_
      refine sim_cS (As := [.int x3]) (st := [.int x2]) (r := (some (.int (fX11_bit x3 b3.2)))) (h1 := b3.2) (okX11_bit x3 b3.2) (fun _ => rfl) mlX11_229 mtX11_bit rfl (Nat.le_of_ble_eq_true rfl) rfl (Nat.le_of_ble_eq_true rfl) dX11_linesReadBy_51 ?_
      refine sim_ior dX11_linesReadBy_54 ?_
      refine sim_nmI (fun v6 => ?_)
      refine sim_istore_n (L' := [(2, .int v6), (0, .ref 0), (1, .int x1), (3, .int x3)]) rfl (by decide) dX11_linesReadBy_55 ?_
      refine sim_iinc (v := x3 + 1) (L' := [(3, .int (x3 + 1)), (2, .int v6), (0, .ref 0), (1, .int x1)]) 3 rfl rfl rfl (by decide) dX11_linesReadBy_56 ?_
      refine sim_goto (tgt := 4) dX11_linesReadBy_59 (by decide) ?_
      refine sim_sub [2, 3, 1, 0] rfl ?_
      exact hR v6 (x3 + 1) b3.2
theorem sX11_linesReadBy_l4 {x1 : Int32} : ∀ (n : Nat) (x2 : Int32) (x3 : Int32) (h : AH), Sim RX11 cX11_linesReadBy 4 (some .int) 6 (Option.map oI) (fX11_linesReadBy_l4 x1 n x2 x3 h) 4 [(0, .ref 0), (1, .int x1), (2, .int x2), (3, .int x3)] [] h := by
  intro n
  induction n with
  | zero => intro x2 x3 h; exact sim_none
  | succ n ih => intro x2 x3 h; exact sX11_linesReadBy_l4b ih x2 x3 h
def fX11_linesReadBy (p1 : Int32) (h : AH) : Option (Int32 × AH) :=
  fX11_linesReadBy_l4 p1 fuel0 (0 : Int32) (0 : Int32) h
theorem sX11_linesReadBy (p1 : Int32) (h : AH) : Sim RX11 cX11_linesReadBy 4 (some .int) 6 (Option.map oI) (fX11_linesReadBy p1 h) 0 [(0, .ref 0), (1, .int p1)] [] h := by
  unfold fX11_linesReadBy
  refine sim_iconst (v := 0) (by decide) dX11_linesReadBy_0 ?_
  refine sim_istore_n (L' := [(2, .int (0 : Int32)), (0, .ref 0), (1, .int p1)]) rfl (by decide) dX11_linesReadBy_1 ?_
  refine sim_iconst (v := 0) (by decide) dX11_linesReadBy_2 ?_
  refine sim_istore_n (L' := [(3, .int (0 : Int32)), (2, .int (0 : Int32)), (0, .ref 0), (1, .int p1)]) rfl (by decide) dX11_linesReadBy_3 ?_
  refine sim_sub [2, 3, 1, 0] rfl ?_
  refine sX11_linesReadBy_l4 _ (0 : Int32) (0 : Int32) h
theorem okX11_linesReadBy (p1 : Int32) (h : AH) (b : Int32 × AH) (e : fX11_linesReadBy p1 h = some b) : Ok yX11_linesReadBy cX11_linesReadBy 4 (some .int) 6 [.ref 0, .int p1] h (some (.int b.1), b.2) := ok_of (sX11_linesReadBy p1 h) (by rw [e]; rfl) (by decide +kernel) (Nat.le_of_ble_eq_true rfl)
def fX11_isIn (p0 : Int32) (p1 : Int32) (h : AH) : Int32 :=
  if ((jshr p0 p1) &&& (1 : Int32)) = 0 then
    (0 : Int32)
  else
    (1 : Int32)
theorem sX11_isIn (p0 : Int32) (p1 : Int32) (h : AH) : Sim RX11 cX11_isIn 2 (some .boolean) 1 (tI h) (fX11_isIn p0 p1 h) 0 [(0, .int p0), (1, .int p1)] [] h := by
  unfold fX11_isIn
  refine sim_iload_n 0 rfl dX11_isIn_0 ?_
  refine sim_iload_n 1 rfl dX11_isIn_1 ?_
  refine sim_ishr dX11_isIn_2 ?_
  refine sim_iconst (v := 1) (by decide) dX11_isIn_3 ?_
  refine sim_iand dX11_isIn_4 ?_
  refine sim_if_eq (tgt := 12) dX11_isIn_5 (by decide) (fun c1 => ?_) (fun c1 => ?_)
  · refine sim_iconst (v := 0) (by decide) dX11_isIn_12 ?_
    exact sim_zret rfl rfl rfl dX11_isIn_13
  · refine sim_iconst (v := 1) (by decide) dX11_isIn_8 ?_
    refine sim_goto (tgt := 13) dX11_isIn_9 (by decide) ?_
    exact sim_zret rfl rfl rfl dX11_isIn_13
theorem okX11_isIn (p0 : Int32) (p1 : Int32) (h : AH) : Ok yX11_isIn cX11_isIn 2 (some .boolean) 1 [.int p0, .int p1] h (some (.int (fX11_isIn p0 p1 h)), h) := ok_of (sX11_isIn p0 p1 h) rfl (by decide +kernel) (Nat.le_of_ble_eq_true rfl)
def fX11_within (p0 : Int32) (p1 : Int32) (p2 : Int32) (h : AH) : Int32 :=
  jmax p1 (jmin p2 p0)
theorem sX11_within (p0 : Int32) (p1 : Int32) (p2 : Int32) (h : AH) : Sim RX11 cX11_within 3 (some .int) 1 (tI h) (fX11_within p0 p1 p2 h) 0 [(0, .int p0), (1, .int p1), (2, .int p2)] [] h := by
  unfold fX11_within
  refine sim_iload_n 1 rfl dX11_within_0 ?_
  refine sim_iload_n 2 rfl dX11_within_1 ?_
  refine sim_iload_n 0 rfl dX11_within_2 ?_
  refine sim_mmin (gtbl_of 930 (by decide +kernel) rfl) (by first | decide | omega) (Nat.le_of_ble_eq_true rfl) dX11_within_3 ?_
  refine sim_mmax (gtbl_of 931 (by decide +kernel) rfl) (by first | decide | omega) (Nat.le_of_ble_eq_true rfl) dX11_within_6 ?_
  exact sim_iret rfl rfl dX11_within_9
theorem okX11_within (p0 : Int32) (p1 : Int32) (p2 : Int32) (h : AH) : Ok yX11_within cX11_within 3 (some .int) 1 [.int p0, .int p1, .int p2] h (some (.int (fX11_within p0 p1 p2 h)), h) := ok_of (sX11_within p0 p1 p2 h) rfl (by decide +kernel) (Nat.le_of_ble_eq_true rfl)
def fX4_amount_l2b (rec : Int32 → AH → Option (Int32 × AH)) (K30 : Int32 → AH → Option (Int32 × AH)) (x1 : Int32) (x2 : Int32) (x3 : Int32) (h : AH) : Option (Int32 × AH) :=
  if x3 < (h.1 42 0) then
    if (fX11_at 44 x3 h) = x1 then
      (fX4_conditionHolds x3 h).bind (fun b3 =>
      if b3.1 = 0 then
        rec (x3 + 1) b3.2
      else
        K30 x3 b3.2)
    else
      rec (x3 + 1) h
  else
    some ((0 : Int32), h)
def fX4_amount_l2 (K30 : Int32 → AH → Option (Int32 × AH)) (x1 : Int32) (x2 : Int32) : Nat → Int32 → AH → Option (Int32 × AH)
  | 0, _, _ => none
  | n + 1, x3, h => fX4_amount_l2b (fX4_amount_l2 K30 x1 x2 n) K30 x1 x2 x3 h
theorem sX4_amount_l2b {rec : Int32 → AH → Option (Int32 × AH)} {K30 : Int32 → AH → Option (Int32 × AH)} {x1 : Int32} {x2 : Int32} (hR : ∀ (x3 : Int32) (h : AH), Sim RX4 cX4_amount 5 (some .int) 5 (Option.map oI) (rec x3 h) 2 [(0, .ref 42), (1, .int x1), (2, .int x2), (3, .int x3)] [] h) (hK30 : ∀ (y3 : Int32) (g : AH), Sim RX4 cX4_amount 5 (some .int) 5 (Option.map oI) (K30 y3 g) 30 [(0, .ref 42), (2, .int x2), (3, .int y3)] [] g) : ∀ (x3 : Int32) (h : AH), Sim RX4 cX4_amount 5 (some .int) 5 (Option.map oI) (fX4_amount_l2b rec K30 x1 x2 x3 h) 2 [(0, .ref 42), (1, .int x1), (2, .int x2), (3, .int x3)] [] h := by
  intro x3 h
  unfold fX4_amount_l2b
  refine sim_iload_n 3 rfl dX4_amount_2 ?_
  refine sim_aload_n 0 rfl dX4_amount_3 ?_
  refine sim_getI flX4_9 rfl rfl dX4_amount_4 ?_
  refine sim_icmp_ge (tgt := 66) dX4_amount_7 (by decide) (fun c1 => ?_) (fun c1 => ?_)
  · refine sim_iconst (v := 0) (by decide) dX4_amount_66 ?_
    exact sim_iret rfl rfl dX4_amount_67
  · refine sim_aload_n 0 rfl dX4_amount_10 ?_
    refine sim_getR flX4_32 rfl rfl dX4_amount_11 ?_
    refine sim_iload_n 3 rfl dX4_amount_14 ?_
    refine sim_cS (As := [.ref 44, .int x3]) (st := []) (r := (some (.int (fX11_at 44 x3 h)))) (h1 := h) (okX11_at 44 rfl x3 h) (fun _ => rfl) mlX4_55 mtX11_at rfl (Nat.le_of_ble_eq_true rfl) rfl (Nat.le_of_ble_eq_true rfl) dX4_amount_15 ?_
    refine sim_iload_n 1 rfl dX4_amount_18 ?_
    refine sim_icmp_ne (tgt := 60) dX4_amount_19 (by decide) (fun c2 => ?_) (fun c2 => ?_)
    · refine sim_iinc (v := x3 + 1) (L' := [(3, .int (x3 + 1)), (0, .ref 42), (1, .int x1), (2, .int x2)]) 3 rfl rfl rfl (by decide) dX4_amount_60 ?_
      refine sim_goto (tgt := 2) dX4_amount_63 (by decide) ?_
      refine sim_sub [1, 2, 3, 0] rfl ?_
      exact hR (x3 + 1) h
    · refine sim_aload_n 0 rfl dX4_amount_22 ?_
      refine sim_iload_n 3 rfl dX4_amount_23 ?_
      refine sim_bind (fun b3 e4 => ?_)
      refine sim_cV (As := [.int x3]) (st := []) (r := (some (.int b3.1))) (h1 := b3.2) (okX4_conditionHolds x3 h b3 e4) (fun _ => rfl) mlX4_82 mtX4_conditionHolds rfl rfl rfl rfl (Nat.le_of_ble_eq_true rfl) rfl (Nat.le_of_ble_eq_true rfl) dX4_amount_24 ?_
      refine sim_if_eq (tgt := 60) dX4_amount_27 (by decide) (fun c5 => ?_) (fun c5 => ?_)
      · refine sim_iinc (v := x3 + 1) (L' := [(3, .int (x3 + 1)), (0, .ref 42), (1, .int x1), (2, .int x2)]) 3 rfl rfl rfl (by decide) dX4_amount_60 ?_
        refine sim_goto (tgt := 2) dX4_amount_63 (by decide) ?_
        refine sim_sub [1, 2, 3, 0] rfl ?_
        exact hR (x3 + 1) b3.2
      · refine sim_sub [0, 2, 3] rfl ?_
        exact hK30 x3 b3.2
theorem sX4_amount_l2 {K30 : Int32 → AH → Option (Int32 × AH)} {x1 : Int32} {x2 : Int32} (hK30 : ∀ (y3 : Int32) (g : AH), Sim RX4 cX4_amount 5 (some .int) 5 (Option.map oI) (K30 y3 g) 30 [(0, .ref 42), (2, .int x2), (3, .int y3)] [] g) : ∀ (n : Nat) (x3 : Int32) (h : AH), Sim RX4 cX4_amount 5 (some .int) 5 (Option.map oI) (fX4_amount_l2 K30 x1 x2 n x3 h) 2 [(0, .ref 42), (1, .int x1), (2, .int x2), (3, .int x3)] [] h := by
  intro n
  induction n with
  | zero => intro x3 h; exact sim_none
  | succ n ih => intro x3 h; exact sX4_amount_l2b ih hK30 x3 h
def fX4_amount (p1 : Int32) (p2 : Int32) (h : AH) : Option (Int32 × AH) :=
  fX4_amount_l2 (fun (y6 : Int32) (g7 : AH) =>
    (fX4_run (fX11_at 45 y6 g7) (fX11_at 46 y6 g7) g7).bind (fun b8 =>
    some (fX11_within b8.1 (0 : Int32) p2 b8.2, b8.2))) p1 p2 fuel0 (0 : Int32) h
theorem sX4_amount (p1 : Int32) (p2 : Int32) (h : AH) : Sim RX4 cX4_amount 5 (some .int) 5 (Option.map oI) (fX4_amount p1 p2 h) 0 [(0, .ref 42), (1, .int p1), (2, .int p2)] [] h := by
  unfold fX4_amount
  refine sim_iconst (v := 0) (by decide) dX4_amount_0 ?_
  refine sim_istore_n (L' := [(3, .int (0 : Int32)), (0, .ref 42), (1, .int p1), (2, .int p2)]) rfl (by decide) dX4_amount_1 ?_
  refine sim_sub [1, 2, 3, 0] rfl ?_
  refine sX4_amount_l2 (fun y6 g7 => ?_) _ (0 : Int32) h
  · refine sim_aload_n 0 rfl dX4_amount_30 ?_
    refine sim_aload_n 0 rfl dX4_amount_31 ?_
    refine sim_getR flX4_35 rfl rfl dX4_amount_32 ?_
    refine sim_iload_n 2 rfl dX4_amount_35 ?_
    refine sim_cS (As := [.ref 45, .int y6]) (st := [.ref 42]) (r := (some (.int (fX11_at 45 y6 g7)))) (h1 := g7) (okX11_at 45 rfl y6 g7) (fun _ => rfl) mlX4_55 mtX11_at rfl (Nat.le_of_ble_eq_true rfl) rfl (Nat.le_of_ble_eq_true rfl) dX4_amount_36 ?_
    refine sim_aload_n 0 rfl dX4_amount_39 ?_
    refine sim_getR flX4_38 rfl rfl dX4_amount_40 ?_
    refine sim_iload_n 2 rfl dX4_amount_43 ?_
    refine sim_cS (As := [.ref 46, .int y6]) (st := [.int (fX11_at 45 y6 g7), .ref 42]) (r := (some (.int (fX11_at 46 y6 g7)))) (h1 := g7) (okX11_at 46 rfl y6 g7) (fun _ => rfl) mlX4_55 mtX11_at rfl (Nat.le_of_ble_eq_true rfl) rfl (Nat.le_of_ble_eq_true rfl) dX4_amount_44 ?_
    refine sim_bind (fun b8 e9 => ?_)
    refine sim_cV (As := [.int (fX11_at 45 y6 g7), .int (fX11_at 46 y6 g7)]) (st := []) (r := (some (.int b8.1))) (h1 := b8.2) (okX4_run (fX11_at 45 y6 g7) (fX11_at 46 y6 g7) g7 b8 e9) (fun _ => rfl) mlX4_86 mtX4_run rfl rfl rfl rfl (Nat.le_of_ble_eq_true rfl) rfl (Nat.le_of_ble_eq_true rfl) dX4_amount_47 ?_
    refine sim_istore (L' := [(4, .int b8.1), (0, .ref 42), (2, .int p2), (3, .int y6)]) rfl (by decide) dX4_amount_50 ?_
    refine sim_iload 0 rfl dX4_amount_52 ?_
    refine sim_iconst (v := 0) (by decide) dX4_amount_54 ?_
    refine sim_iload_n 2 rfl dX4_amount_55 ?_
    refine sim_cS (As := [.int b8.1, .int (0 : Int32), .int p2]) (st := []) (r := (some (.int (fX11_within b8.1 (0 : Int32) p2 b8.2)))) (h1 := b8.2) (okX11_within b8.1 (0 : Int32) p2 b8.2) (fun _ => rfl) mlX4_90 mtX11_within rfl (Nat.le_of_ble_eq_true rfl) rfl (Nat.le_of_ble_eq_true rfl) dX4_amount_56 ?_
    exact sim_iret rfl rfl dX4_amount_59
theorem okX4_amount (p1 : Int32) (p2 : Int32) (h : AH) (b : Int32 × AH) (e : fX4_amount p1 p2 h = some b) : Ok yX4_amount cX4_amount 5 (some .int) 5 [.ref 42, .int p1, .int p2] h (some (.int b.1), b.2) := ok_of (sX4_amount p1 p2 h) (by rw [e]; rfl) (by decide +kernel) (Nat.le_of_ble_eq_true rfl)
def fX11_amountAt (p1 : Int32) (p2 : Int32) (p3 : Int32) (h : AH) : Option (Int32 × AH) :=
  letT (fX4_lookAt p2 (fX9_claimOf p2 h) p3 h) (fun g1 =>
  if p1 = (116 : Int32) then
    (fX4_amount p1 (99 : Int32) g1).bind (fun b8 =>
    some (b8.1, b8.2))
  else
    if p1 = (119 : Int32) then
      (fX4_amount p1 (99 : Int32) g1).bind (fun b6 =>
      some (b6.1, b6.2))
    else
      (fX4_amount p1 (10 : Int32) g1).bind (fun b4 =>
      some (b4.1, b4.2)))
theorem sX11_amountAt (p1 : Int32) (p2 : Int32) (p3 : Int32) (h : AH) : Sim RX11 cX11_amountAt 4 (some .int) 6 (Option.map oI) (fX11_amountAt p1 p2 p3 h) 0 [(0, .ref 0), (1, .int p1), (2, .int p2), (3, .int p3)] [] h := by
  unfold fX11_amountAt
  refine sim_aload_n 0 rfl dX11_amountAt_0 ?_
  refine sim_getR flX11_49 rfl rfl dX11_amountAt_1 ?_
  refine sim_aload_n 0 rfl dX11_amountAt_4 ?_
  refine sim_getR flX11_19 rfl rfl dX11_amountAt_5 ?_
  refine sim_iload_n 2 rfl dX11_amountAt_8 ?_
  refine sim_aload_n 0 rfl dX11_amountAt_9 ?_
  refine sim_getR flX11_19 rfl rfl dX11_amountAt_10 ?_
  refine sim_iload_n 2 rfl dX11_amountAt_13 ?_
  refine sim_cV (As := [.int p2]) (st := [.int p2, .ref 3, .ref 42]) (r := (some (.int (fX9_claimOf p2 h)))) (h1 := h) (okX9_claimOf p2 h) (fun _ => rfl) mlX11_158 mtX9_claimOf rfl rfl rfl rfl (Nat.le_of_ble_eq_true rfl) rfl (Nat.le_of_ble_eq_true rfl) dX11_amountAt_14 ?_
  refine sim_iload_n 3 rfl dX11_amountAt_17 ?_
  refine sim_cV (As := [.ref 3, .int p2, .int (fX9_claimOf p2 h), .int p3]) (st := []) (r := none) (h1 := (fX4_lookAt p2 (fX9_claimOf p2 h) p3 h)) (okX4_lookAt p2 (fX9_claimOf p2 h) p3 h) (fun _ => rfl) mlX11_348 mtX4_lookAt rfl rfl rfl rfl (Nat.le_of_ble_eq_true rfl) rfl (Nat.le_of_ble_eq_true rfl) dX11_amountAt_18 ?_
  refine sim_nmH (fun g1 => ?_)
  refine sim_aload_n 0 rfl dX11_amountAt_21 ?_
  refine sim_getR flX11_49 rfl rfl dX11_amountAt_22 ?_
  refine sim_iload_n 1 rfl dX11_amountAt_25 ?_
  refine sim_iload_n 1 rfl dX11_amountAt_26 ?_
  refine sim_bipush (v := 116) (by decide) dX11_amountAt_27 ?_
  refine sim_icmp_ne (tgt := 37) dX11_amountAt_29 (by decide) (fun c2 => ?_) (fun c2 => ?_)
  · refine sim_iload_n 1 rfl dX11_amountAt_37 ?_
    refine sim_bipush (v := 119) (by decide) dX11_amountAt_38 ?_
    refine sim_icmp_ne (tgt := 48) dX11_amountAt_40 (by decide) (fun c3 => ?_) (fun c3 => ?_)
    · refine sim_bipush (v := 10) (by decide) dX11_amountAt_48 ?_
      refine sim_bind (fun b4 e5 => ?_)
      refine sim_cV (As := [.int p1, .int (10 : Int32)]) (st := []) (r := (some (.int b4.1))) (h1 := b4.2) (okX4_amount p1 (10 : Int32) g1 b4 e5) (fun _ => rfl) mlX11_355 mtX4_amount rfl rfl rfl rfl (Nat.le_of_ble_eq_true rfl) rfl (Nat.le_of_ble_eq_true rfl) dX11_amountAt_50 ?_
      exact sim_iret rfl rfl dX11_amountAt_53
    · refine sim_bipush (v := 99) (by decide) dX11_amountAt_43 ?_
      refine sim_goto (tgt := 50) dX11_amountAt_45 (by decide) ?_
      refine sim_bind (fun b6 e7 => ?_)
      refine sim_cV (As := [.int p1, .int (99 : Int32)]) (st := []) (r := (some (.int b6.1))) (h1 := b6.2) (okX4_amount p1 (99 : Int32) g1 b6 e7) (fun _ => rfl) mlX11_355 mtX4_amount rfl rfl rfl rfl (Nat.le_of_ble_eq_true rfl) rfl (Nat.le_of_ble_eq_true rfl) dX11_amountAt_50 ?_
      exact sim_iret rfl rfl dX11_amountAt_53
  · refine sim_bipush (v := 99) (by decide) dX11_amountAt_32 ?_
    refine sim_goto (tgt := 50) dX11_amountAt_34 (by decide) ?_
    refine sim_bind (fun b8 e9 => ?_)
    refine sim_cV (As := [.int p1, .int (99 : Int32)]) (st := []) (r := (some (.int b8.1))) (h1 := b8.2) (okX4_amount p1 (99 : Int32) g1 b8 e9) (fun _ => rfl) mlX11_355 mtX4_amount rfl rfl rfl rfl (Nat.le_of_ble_eq_true rfl) rfl (Nat.le_of_ble_eq_true rfl) dX11_amountAt_50 ?_
    exact sim_iret rfl rfl dX11_amountAt_53
theorem okX11_amountAt (p1 : Int32) (p2 : Int32) (p3 : Int32) (h : AH) (b : Int32 × AH) (e : fX11_amountAt p1 p2 p3 h = some b) : Ok yX11_amountAt cX11_amountAt 4 (some .int) 6 [.ref 0, .int p1, .int p2, .int p3] h (some (.int b.1), b.2) := ok_of (sX11_amountAt p1 p2 p3 h) (by rw [e]; rfl) (by decide +kernel) (Nat.le_of_ble_eq_true rfl)
def fX11_minutesFor_l5b (rec : Int32 → Int32 → AH → Option (Int32 × AH)) (x1 : Int32) (x2 : Int32) (x3 : Int32) (x4 : Int32) (h : AH) : Option (Int32 × AH) :=
  if x4 < (h.1 6 0) then
    if (fX11_isIn x2 x4 h) = 0 then
      rec x3 (x4 + 1) h
    else
      (fX11_amountAt (116 : Int32) x4 x1 h).bind (fun b3 =>
      rec (x3 + b3.1) (x4 + 1) b3.2)
  else
    some (x3, h)
def fX11_minutesFor_l5 (x1 : Int32) (x2 : Int32) : Nat → Int32 → Int32 → AH → Option (Int32 × AH)
  | 0, _, _, _ => none
  | n + 1, x3, x4, h => fX11_minutesFor_l5b (fX11_minutesFor_l5 x1 x2 n) x1 x2 x3 x4 h
theorem sX11_minutesFor_l5b {rec : Int32 → Int32 → AH → Option (Int32 × AH)} {x1 : Int32} {x2 : Int32} (hR : ∀ (x3 : Int32) (x4 : Int32) (h : AH), Sim RX11 cX11_minutesFor 5 (some .int) 7 (Option.map oI) (rec x3 x4 h) 5 [(0, .ref 0), (1, .int x1), (2, .int x2), (3, .int x3), (4, .int x4)] [] h) : ∀ (x3 : Int32) (x4 : Int32) (h : AH), Sim RX11 cX11_minutesFor 5 (some .int) 7 (Option.map oI) (fX11_minutesFor_l5b rec x1 x2 x3 x4 h) 5 [(0, .ref 0), (1, .int x1), (2, .int x2), (3, .int x3), (4, .int x4)] [] h := by
  intro x3 x4 h
  unfold fX11_minutesFor_l5b
  refine sim_iload 4 rfl dX11_minutesFor_5 ?_
  refine sim_aload_n 0 rfl dX11_minutesFor_7 ?_
  refine sim_getR flX11_19 rfl rfl dX11_minutesFor_8 ?_
  refine sim_getR flX11_133 rfl rfl dX11_minutesFor_11 ?_
  refine sim_getI flX11_198 rfl rfl dX11_minutesFor_14 ?_
  refine sim_icmp_ge (tgt := 47) dX11_minutesFor_17 (by decide) (fun c1 => ?_) (fun c1 => ?_)
  · refine sim_iload_n 3 rfl dX11_minutesFor_47 ?_
    exact sim_iret rfl rfl dX11_minutesFor_48
  · refine sim_iload_n 2 rfl dX11_minutesFor_20 ?_
    refine sim_iload 4 rfl dX11_minutesFor_21 ?_
    refine sim_cS (As := [.int x2, .int x4]) (st := []) (r := (some (.int (fX11_isIn x2 x4 h)))) (h1 := h) (okX11_isIn x2 x4 h) (fun _ => rfl) mlX11_252 mtX11_isIn rfl (Nat.le_of_ble_eq_true rfl) rfl (Nat.le_of_ble_eq_true rfl) dX11_minutesFor_23 ?_
    refine sim_if_eq (tgt := 41) dX11_minutesFor_26 (by decide) (fun c2 => ?_) (fun c2 => ?_)
    · refine sim_iinc (v := x4 + 1) (L' := [(4, .int (x4 + 1)), (0, .ref 0), (1, .int x1), (2, .int x2), (3, .int x3)]) 4 rfl rfl rfl (by decide) dX11_minutesFor_41 ?_
      refine sim_goto (tgt := 5) dX11_minutesFor_44 (by decide) ?_
      refine sim_sub [1, 2, 3, 4, 0] rfl ?_
      exact hR x3 (x4 + 1) h
    · refine sim_iload_n 3 rfl dX11_minutesFor_29 ?_
      refine sim_aload_n 0 rfl dX11_minutesFor_30 ?_
      refine sim_bipush (v := 116) (by decide) dX11_minutesFor_31 ?_
      refine sim_iload 4 rfl dX11_minutesFor_33 ?_
      refine sim_iload_n 1 rfl dX11_minutesFor_35 ?_
      refine sim_bind (fun b3 e4 => ?_)
      refine sim_cV (As := [.int (116 : Int32), .int x4, .int x1]) (st := [.int x3]) (r := (some (.int b3.1))) (h1 := b3.2) (okX11_amountAt (116 : Int32) x4 x1 h b3 e4) (fun _ => rfl) mlX11_285 mtX11_amountAt rfl rfl rfl rfl (Nat.le_of_ble_eq_true rfl) rfl (Nat.le_of_ble_eq_true rfl) dX11_minutesFor_36 ?_
      refine sim_iadd dX11_minutesFor_39 ?_
      refine sim_istore_n (L' := [(3, .int (x3 + b3.1)), (0, .ref 0), (1, .int x1), (2, .int x2), (4, .int x4)]) rfl (by decide) dX11_minutesFor_40 ?_
      refine sim_iinc (v := x4 + 1) (L' := [(4, .int (x4 + 1)), (3, .int (x3 + b3.1)), (0, .ref 0), (1, .int x1), (2, .int x2)]) 4 rfl rfl rfl (by decide) dX11_minutesFor_41 ?_
      refine sim_goto (tgt := 5) dX11_minutesFor_44 (by decide) ?_
      refine sim_sub [2, 3, 4, 1, 0] rfl ?_
      exact hR (x3 + b3.1) (x4 + 1) b3.2
theorem sX11_minutesFor_l5 {x1 : Int32} {x2 : Int32} : ∀ (n : Nat) (x3 : Int32) (x4 : Int32) (h : AH), Sim RX11 cX11_minutesFor 5 (some .int) 7 (Option.map oI) (fX11_minutesFor_l5 x1 x2 n x3 x4 h) 5 [(0, .ref 0), (1, .int x1), (2, .int x2), (3, .int x3), (4, .int x4)] [] h := by
  intro n
  induction n with
  | zero => intro x3 x4 h; exact sim_none
  | succ n ih => intro x3 x4 h; exact sX11_minutesFor_l5b ih x3 x4 h
def fX11_minutesFor (p1 : Int32) (p2 : Int32) (h : AH) : Option (Int32 × AH) :=
  fX11_minutesFor_l5 p1 p2 fuel0 (0 : Int32) (0 : Int32) h
theorem sX11_minutesFor (p1 : Int32) (p2 : Int32) (h : AH) : Sim RX11 cX11_minutesFor 5 (some .int) 7 (Option.map oI) (fX11_minutesFor p1 p2 h) 0 [(0, .ref 0), (1, .int p1), (2, .int p2)] [] h := by
  unfold fX11_minutesFor
  refine sim_iconst (v := 0) (by decide) dX11_minutesFor_0 ?_
  refine sim_istore_n (L' := [(3, .int (0 : Int32)), (0, .ref 0), (1, .int p1), (2, .int p2)]) rfl (by decide) dX11_minutesFor_1 ?_
  refine sim_iconst (v := 0) (by decide) dX11_minutesFor_2 ?_
  refine sim_istore (L' := [(4, .int (0 : Int32)), (3, .int (0 : Int32)), (0, .ref 0), (1, .int p1), (2, .int p2)]) rfl (by decide) dX11_minutesFor_3 ?_
  refine sim_sub [2, 3, 4, 1, 0] rfl ?_
  refine sX11_minutesFor_l5 _ (0 : Int32) (0 : Int32) h
theorem okX11_minutesFor (p1 : Int32) (p2 : Int32) (h : AH) (b : Int32 × AH) (e : fX11_minutesFor p1 p2 h = some b) : Ok yX11_minutesFor cX11_minutesFor 5 (some .int) 7 [.ref 0, .int p1, .int p2] h (some (.int b.1), b.2) := ok_of (sX11_minutesFor p1 p2 h) (by rw [e]; rfl) (by decide +kernel) (Nat.le_of_ble_eq_true rfl)
def fX11_reads (p1 : Int32) (p2 : Int32) (h : AH) : Option (Int32 × AH) :=
  if p1 < 0 then
    some ((-1 : Int32), h)
  else
    if p1 < (10 : Int32) then
      if p2 < 0 then
        some ((-1 : Int32), h)
      else
        if (2 : Int32) < p2 then
          some ((-1 : Int32), h)
        else
          (fX11_linesReadBy p1 h).bind (fun b5 =>
          if p2 = 0 then
            some (b5.1, b5.2)
          else
            if p2 = (1 : Int32) then
              (fX9_wrongLines b5.2).bind (fun b11 =>
              some (b5.1 &&& b11, b5.2))
            else
              (fX11_minutesFor p1 b5.1 b5.2).bind (fun b9 =>
              some (b9.1, b9.2)))
    else
      some ((-1 : Int32), h)
theorem sX11_reads (p1 : Int32) (p2 : Int32) (h : AH) : Sim RX11 cX11_reads 4 (some .int) 8 (Option.map oI) (fX11_reads p1 p2 h) 0 [(0, .ref 0), (1, .int p1), (2, .int p2)] [] h := by
  unfold fX11_reads
  refine sim_iload_n 1 rfl dX11_reads_0 ?_
  refine sim_if_lt (tgt := 19) dX11_reads_1 (by decide) (fun c1 => ?_) (fun c1 => ?_)
  · refine sim_iconst (v := -1) (by decide) dX11_reads_19 ?_
    exact sim_iret rfl rfl dX11_reads_20
  · refine sim_iload_n 1 rfl dX11_reads_4 ?_
    refine sim_bipush (v := 10) (by decide) dX11_reads_5 ?_
    refine sim_icmp_ge (tgt := 19) dX11_reads_7 (by decide) (fun c2 => ?_) (fun c2 => ?_)
    · refine sim_iconst (v := -1) (by decide) dX11_reads_19 ?_
      exact sim_iret rfl rfl dX11_reads_20
    · refine sim_iload_n 2 rfl dX11_reads_10 ?_
      refine sim_if_lt (tgt := 19) dX11_reads_11 (by decide) (fun c3 => ?_) (fun c3 => ?_)
      · refine sim_iconst (v := -1) (by decide) dX11_reads_19 ?_
        exact sim_iret rfl rfl dX11_reads_20
      · refine sim_iload_n 2 rfl dX11_reads_14 ?_
        refine sim_iconst (v := 2) (by decide) dX11_reads_15 ?_
        refine sim_icmp_le (tgt := 21) dX11_reads_16 (by decide) (fun c4 => ?_) (fun c4 => ?_)
        · refine sim_aload_n 0 rfl dX11_reads_21 ?_
          refine sim_iload_n 1 rfl dX11_reads_22 ?_
          refine sim_bind (fun b5 e6 => ?_)
          refine sim_cV (As := [.int p1]) (st := []) (r := (some (.int b5.1))) (h1 := b5.2) (okX11_linesReadBy p1 h b5 e6) (fun _ => rfl) mlX11_236 mtX11_linesReadBy rfl rfl rfl rfl (Nat.le_of_ble_eq_true rfl) rfl (Nat.le_of_ble_eq_true rfl) dX11_reads_23 ?_
          refine sim_istore_n (L' := [(3, .int b5.1), (0, .ref 0), (1, .int p1), (2, .int p2)]) rfl (by decide) dX11_reads_26 ?_
          refine sim_iload_n 3 rfl dX11_reads_27 ?_
          refine sim_if_ne (tgt := 33) dX11_reads_28 (by decide) (fun c7 => ?_) (fun c7 => ?_)
          · refine sim_iload_n 3 rfl dX11_reads_33 ?_
            refine sim_iconst (v := 1) (by decide) dX11_reads_34 ?_
            refine sim_icmp_ne (tgt := 50) dX11_reads_35 (by decide) (fun c8 => ?_) (fun c8 => ?_)
            · refine sim_aload_n 1 rfl dX11_reads_50 ?_
              refine sim_iload_n 2 rfl dX11_reads_51 ?_
              refine sim_iload_n 0 rfl dX11_reads_52 ?_
              refine sim_bind (fun b9 e10 => ?_)
              refine sim_cV (As := [.int p1, .int b5.1]) (st := []) (r := (some (.int b9.1))) (h1 := b9.2) (okX11_minutesFor p1 b5.1 b5.2 b9 e10) (fun _ => rfl) mlX11_239 mtX11_minutesFor rfl rfl rfl rfl (Nat.le_of_ble_eq_true rfl) rfl (Nat.le_of_ble_eq_true rfl) dX11_reads_53 ?_
              exact sim_iret rfl rfl dX11_reads_56
            · refine sim_iload_n 0 rfl dX11_reads_38 ?_
              refine sim_aload_n 1 rfl dX11_reads_39 ?_
              refine sim_getR flX11_19 rfl rfl dX11_reads_40 ?_
              refine sim_bind (fun b11 e12 => ?_)
              refine sim_cV (As := []) (st := [.int b5.1]) (r := (some (.int b11))) (h1 := b5.2) (okX9_wrongLines b5.2 b11 e12) (fun _ => rfl) mlX11_194 mtX9_wrongLines rfl rfl rfl rfl (Nat.le_of_ble_eq_true rfl) rfl (Nat.le_of_ble_eq_true rfl) dX11_reads_43 ?_
              refine sim_iand dX11_reads_46 ?_
              refine sim_goto (tgt := 56) dX11_reads_47 (by decide) ?_
              exact sim_iret rfl rfl dX11_reads_56
          · refine sim_iload_n 0 rfl dX11_reads_31 ?_
            exact sim_iret rfl rfl dX11_reads_32
        · refine sim_iconst (v := -1) (by decide) dX11_reads_19 ?_
          exact sim_iret rfl rfl dX11_reads_20
theorem okX11_reads (p1 : Int32) (p2 : Int32) (h : AH) (b : Int32 × AH) (e : fX11_reads p1 p2 h = some b) : Ok yX11_reads cX11_reads 4 (some .int) 8 [.ref 0, .int p1, .int p2] h (some (.int b.1), b.2) := ok_of (sX11_reads p1 p2 h) (by rw [e]; rfl) (by decide +kernel) (Nat.le_of_ble_eq_true rfl)
def fX11_areHearers (p0 : Int32) (h : AH) : Int32 :=
  if p0 < 0 then
    (0 : Int32)
  else
    if (1023 : Int32) < p0 then
      (0 : Int32)
    else
      (1 : Int32)
theorem sX11_areHearers (p0 : Int32) (h : AH) : Sim RX11 cX11_areHearers 1 (some .boolean) 1 (tI h) (fX11_areHearers p0 h) 0 [(0, .int p0)] [] h := by
  unfold fX11_areHearers
  refine sim_iload_n 0 rfl dX11_areHearers_0 ?_
  refine sim_if_lt (tgt := 15) dX11_areHearers_1 (by decide) (fun c1 => ?_) (fun c1 => ?_)
  · refine sim_iconst (v := 0) (by decide) dX11_areHearers_15 ?_
    exact sim_zret rfl rfl rfl dX11_areHearers_16
  · refine sim_iload_n 0 rfl dX11_areHearers_4 ?_
    refine sim_sipush (v := 1023) (by decide) dX11_areHearers_5 ?_
    refine sim_icmp_gt (tgt := 15) dX11_areHearers_8 (by decide) (fun c2 => ?_) (fun c2 => ?_)
    · refine sim_iconst (v := 0) (by decide) dX11_areHearers_15 ?_
      exact sim_zret rfl rfl rfl dX11_areHearers_16
    · refine sim_iconst (v := 1) (by decide) dX11_areHearers_11 ?_
      refine sim_goto (tgt := 16) dX11_areHearers_12 (by decide) ?_
      exact sim_zret rfl rfl rfl dX11_areHearers_16
theorem okX11_areHearers (p0 : Int32) (h : AH) : Ok yX11_areHearers cX11_areHearers 1 (some .boolean) 1 [.int p0] h (some (.int (fX11_areHearers p0 h)), h) := ok_of (sX11_areHearers p0 h) rfl (by decide +kernel) (Nat.le_of_ble_eq_true rfl)
def fX11_findersOf_l6b (rec : Int32 → Int32 → AH → Option (Int32 × AH)) (x1 : Int32) (x2 : Int32) (x3 : Int32) (x4 : Int32) (x5 : Int32) (x6 : Int32) (h : AH) : Option (Int32 × AH) :=
  if x6 < (10 : Int32) then
    if x5 < x4 then
      if (fX11_isIn x3 x6 h) = 0 then
        rec x5 (x6 + 1) h
      else
        letT (fX4_lookAt x1 x2 x6 h) (fun g4 =>
        (fX4_isRead g4).bind (fun b5 =>
        if b5.1 = 0 then
          letT (x5 + (0 : Int32)) (fun v8 =>
          rec v8 (x6 + 1) b5.2)
        else
          letT (x5 + (1 : Int32)) (fun v9 =>
          rec v9 (x6 + 1) b5.2)))
    else
      some (x5, h)
  else
    some (x5, h)
def fX11_findersOf_l6 (x1 : Int32) (x2 : Int32) (x3 : Int32) (x4 : Int32) : Nat → Int32 → Int32 → AH → Option (Int32 × AH)
  | 0, _, _, _ => none
  | n + 1, x5, x6, h => fX11_findersOf_l6b (fX11_findersOf_l6 x1 x2 x3 x4 n) x1 x2 x3 x4 x5 x6 h
theorem sX11_findersOf_l6b {rec : Int32 → Int32 → AH → Option (Int32 × AH)} {x1 : Int32} {x2 : Int32} {x3 : Int32} {x4 : Int32} (hR : ∀ (x5 : Int32) (x6 : Int32) (h : AH), Sim RX11 cX11_findersOf 7 (some .int) 6 (Option.map oI) (rec x5 x6 h) 6 [(0, .ref 0), (1, .int x1), (2, .int x2), (3, .int x3), (4, .int x4), (5, .int x5), (6, .int x6)] [] h) : ∀ (x5 : Int32) (x6 : Int32) (h : AH), Sim RX11 cX11_findersOf 7 (some .int) 6 (Option.map oI) (fX11_findersOf_l6b rec x1 x2 x3 x4 x5 x6 h) 6 [(0, .ref 0), (1, .int x1), (2, .int x2), (3, .int x3), (4, .int x4), (5, .int x5), (6, .int x6)] [] h := by
  intro x5 x6 h
  unfold fX11_findersOf_l6b
  refine sim_iload 6 rfl dX11_findersOf_6 ?_
  refine sim_bipush (v := 10) (by decide) dX11_findersOf_8 ?_
  refine sim_icmp_ge (tgt := 70) dX11_findersOf_10 (by decide) (fun c1 => ?_) (fun c1 => ?_)
  · refine sim_iload 5 rfl dX11_findersOf_70 ?_
    exact sim_iret rfl rfl dX11_findersOf_72
  · refine sim_iload 5 rfl dX11_findersOf_13 ?_
    refine sim_iload 4 rfl dX11_findersOf_15 ?_
    refine sim_icmp_ge (tgt := 70) dX11_findersOf_17 (by decide) (fun c2 => ?_) (fun c2 => ?_)
    · refine sim_iload 5 rfl dX11_findersOf_70 ?_
      exact sim_iret rfl rfl dX11_findersOf_72
    · refine sim_iload_n 3 rfl dX11_findersOf_20 ?_
      refine sim_iload 6 rfl dX11_findersOf_21 ?_
      refine sim_cS (As := [.int x3, .int x6]) (st := []) (r := (some (.int (fX11_isIn x3 x6 h)))) (h1 := h) (okX11_isIn x3 x6 h) (fun _ => rfl) mlX11_252 mtX11_isIn rfl (Nat.le_of_ble_eq_true rfl) rfl (Nat.le_of_ble_eq_true rfl) dX11_findersOf_23 ?_
      refine sim_if_eq (tgt := 64) dX11_findersOf_26 (by decide) (fun c3 => ?_) (fun c3 => ?_)
      · refine sim_iinc (v := x6 + 1) (L' := [(6, .int (x6 + 1)), (0, .ref 0), (1, .int x1), (2, .int x2), (3, .int x3), (4, .int x4), (5, .int x5)]) 6 rfl rfl rfl (by decide) dX11_findersOf_64 ?_
        refine sim_goto (tgt := 6) dX11_findersOf_67 (by decide) ?_
        refine sim_sub [1, 2, 3, 4, 5, 6, 0] rfl ?_
        exact hR x5 (x6 + 1) h
      · refine sim_aload_n 0 rfl dX11_findersOf_29 ?_
        refine sim_getR flX11_49 rfl rfl dX11_findersOf_30 ?_
        refine sim_aload_n 0 rfl dX11_findersOf_33 ?_
        refine sim_getR flX11_19 rfl rfl dX11_findersOf_34 ?_
        refine sim_iload_n 1 rfl dX11_findersOf_37 ?_
        refine sim_iload_n 2 rfl dX11_findersOf_38 ?_
        refine sim_iload 6 rfl dX11_findersOf_39 ?_
        refine sim_cV (As := [.ref 3, .int x1, .int x2, .int x6]) (st := []) (r := none) (h1 := (fX4_lookAt x1 x2 x6 h)) (okX4_lookAt x1 x2 x6 h) (fun _ => rfl) mlX11_348 mtX4_lookAt rfl rfl rfl rfl (Nat.le_of_ble_eq_true rfl) rfl (Nat.le_of_ble_eq_true rfl) dX11_findersOf_41 ?_
        refine sim_nmH (fun g4 => ?_)
        refine sim_iload 5 rfl dX11_findersOf_44 ?_
        refine sim_aload_n 0 rfl dX11_findersOf_46 ?_
        refine sim_getR flX11_49 rfl rfl dX11_findersOf_47 ?_
        refine sim_bind (fun b5 e6 => ?_)
        refine sim_cV (As := []) (st := [.int x5]) (r := (some (.int b5.1))) (h1 := b5.2) (okX4_isRead g4 b5 e6) (fun _ => rfl) mlX11_352 mtX4_isRead rfl rfl rfl rfl (Nat.le_of_ble_eq_true rfl) rfl (Nat.le_of_ble_eq_true rfl) dX11_findersOf_50 ?_
        refine sim_if_eq (tgt := 60) dX11_findersOf_53 (by decide) (fun c7 => ?_) (fun c7 => ?_)
        · refine sim_iconst (v := 0) (by decide) dX11_findersOf_60 ?_
          refine sim_iadd dX11_findersOf_61 ?_
          refine sim_nmI (fun v8 => ?_)
          refine sim_istore (L' := [(5, .int v8), (0, .ref 0), (1, .int x1), (2, .int x2), (3, .int x3), (4, .int x4), (6, .int x6)]) rfl (by decide) dX11_findersOf_62 ?_
          refine sim_iinc (v := x6 + 1) (L' := [(6, .int (x6 + 1)), (5, .int v8), (0, .ref 0), (1, .int x1), (2, .int x2), (3, .int x3), (4, .int x4)]) 6 rfl rfl rfl (by decide) dX11_findersOf_64 ?_
          refine sim_goto (tgt := 6) dX11_findersOf_67 (by decide) ?_
          refine sim_sub [2, 3, 4, 5, 6, 1, 0] rfl ?_
          exact hR v8 (x6 + 1) b5.2
        · refine sim_iconst (v := 1) (by decide) dX11_findersOf_56 ?_
          refine sim_goto (tgt := 61) dX11_findersOf_57 (by decide) ?_
          refine sim_iadd dX11_findersOf_61 ?_
          refine sim_nmI (fun v9 => ?_)
          refine sim_istore (L' := [(5, .int v9), (0, .ref 0), (1, .int x1), (2, .int x2), (3, .int x3), (4, .int x4), (6, .int x6)]) rfl (by decide) dX11_findersOf_62 ?_
          refine sim_iinc (v := x6 + 1) (L' := [(6, .int (x6 + 1)), (5, .int v9), (0, .ref 0), (1, .int x1), (2, .int x2), (3, .int x3), (4, .int x4)]) 6 rfl rfl rfl (by decide) dX11_findersOf_64 ?_
          refine sim_goto (tgt := 6) dX11_findersOf_67 (by decide) ?_
          refine sim_sub [2, 3, 4, 5, 6, 1, 0] rfl ?_
          exact hR v9 (x6 + 1) b5.2
theorem sX11_findersOf_l6 {x1 : Int32} {x2 : Int32} {x3 : Int32} {x4 : Int32} : ∀ (n : Nat) (x5 : Int32) (x6 : Int32) (h : AH), Sim RX11 cX11_findersOf 7 (some .int) 6 (Option.map oI) (fX11_findersOf_l6 x1 x2 x3 x4 n x5 x6 h) 6 [(0, .ref 0), (1, .int x1), (2, .int x2), (3, .int x3), (4, .int x4), (5, .int x5), (6, .int x6)] [] h := by
  intro n
  induction n with
  | zero => intro x5 x6 h; exact sim_none
  | succ n ih => intro x5 x6 h; exact sX11_findersOf_l6b ih x5 x6 h
def fX11_findersOf (p1 : Int32) (p2 : Int32) (p3 : Int32) (p4 : Int32) (h : AH) : Option (Int32 × AH) :=
  fX11_findersOf_l6 p1 p2 p3 p4 fuel0 (0 : Int32) (0 : Int32) h
theorem sX11_findersOf (p1 : Int32) (p2 : Int32) (p3 : Int32) (p4 : Int32) (h : AH) : Sim RX11 cX11_findersOf 7 (some .int) 6 (Option.map oI) (fX11_findersOf p1 p2 p3 p4 h) 0 [(0, .ref 0), (1, .int p1), (2, .int p2), (3, .int p3), (4, .int p4)] [] h := by
  unfold fX11_findersOf
  refine sim_iconst (v := 0) (by decide) dX11_findersOf_0 ?_
  refine sim_istore (L' := [(5, .int (0 : Int32)), (0, .ref 0), (1, .int p1), (2, .int p2), (3, .int p3), (4, .int p4)]) rfl (by decide) dX11_findersOf_1 ?_
  refine sim_iconst (v := 0) (by decide) dX11_findersOf_3 ?_
  refine sim_istore (L' := [(6, .int (0 : Int32)), (5, .int (0 : Int32)), (0, .ref 0), (1, .int p1), (2, .int p2), (3, .int p3), (4, .int p4)]) rfl (by decide) dX11_findersOf_4 ?_
  refine sim_sub [2, 3, 4, 5, 6, 1, 0] rfl ?_
  refine sX11_findersOf_l6 _ (0 : Int32) (0 : Int32) h
theorem okX11_findersOf (p1 : Int32) (p2 : Int32) (p3 : Int32) (p4 : Int32) (h : AH) (b : Int32 × AH) (e : fX11_findersOf p1 p2 p3 p4 h = some b) : Ok yX11_findersOf cX11_findersOf 7 (some .int) 6 [.ref 0, .int p1, .int p2, .int p3, .int p4] h (some (.int b.1), b.2) := ok_of (sX11_findersOf p1 p2 p3 p4 h) (by rw [e]; rfl) (by decide +kernel) (Nat.le_of_ble_eq_true rfl)
def fX11_hideAt_l9b (rec : Int32 → Int32 → Int32 → AH → Option (Int32 × AH)) (x1 : Int32) (x2 : Int32) (x4 : Int32) (x5 : Int32) (x6 : Int32) (h : AH) : Option (Int32 × AH) :=
  if x6 < (h.1 3 0) then
    if 0 < x4 then
      if x6 = (fX11_at 49 x1 h) then
        rec x4 x5 (x6 + 1) h
      else
        letT ((fX11_findersOf x1 x6 x2 x4 h).bind (fun b5 =>
          if b5.1 < x4 then
            letT (fX11_put 52 (1 : Int32) x1 b5.2) (fun g8 =>
            letT (fX11_put 52 (2 : Int32) x6 g8) (fun g9 =>
            rec b5.1 (1 : Int32) (x6 + 1) g9))
          else
            rec x4 (1 : Int32) (x6 + 1) b5.2)) (fun J4 =>
        if x5 = 0 then
          J4
        else
          if (h.1 42 1) = 0 then
            rec x4 x5 (x6 + 1) h
          else
            J4)
    else
      some (x4, h)
  else
    some (x4, h)
def fX11_hideAt_l9 (x1 : Int32) (x2 : Int32) : Nat → Int32 → Int32 → Int32 → AH → Option (Int32 × AH)
  | 0, _, _, _, _ => none
  | n + 1, x4, x5, x6, h => fX11_hideAt_l9b (fX11_hideAt_l9 x1 x2 n) x1 x2 x4 x5 x6 h
theorem sX11_hideAt_l9b {rec : Int32 → Int32 → Int32 → AH → Option (Int32 × AH)} {x1 : Int32} {x2 : Int32} (hR : ∀ (x4 : Int32) (x5 : Int32) (x6 : Int32) (h : AH), Sim RX11 cX11_hideAt 8 (some .int) 7 (Option.map oI) (rec x4 x5 x6 h) 9 [(0, .ref 0), (1, .int x1), (2, .int x2), (4, .int x4), (5, .int x5), (6, .int x6)] [] h) : ∀ (x4 : Int32) (x5 : Int32) (x6 : Int32) (h : AH), Sim RX11 cX11_hideAt 8 (some .int) 7 (Option.map oI) (fX11_hideAt_l9b rec x1 x2 x4 x5 x6 h) 9 [(0, .ref 0), (1, .int x1), (2, .int x2), (4, .int x4), (5, .int x5), (6, .int x6)] [] h := by
  intro x4 x5 x6 h
  unfold fX11_hideAt_l9b
  refine sim_iload 5 rfl dX11_hideAt_9 ?_
  refine sim_aload_n 0 rfl dX11_hideAt_11 ?_
  refine sim_getR flX11_19 rfl rfl dX11_hideAt_12 ?_
  refine sim_getI flX11_123 rfl rfl dX11_hideAt_15 ?_
  refine sim_icmp_ge (tgt := 105) dX11_hideAt_18 (by decide) (fun c1 => ?_) (fun c1 => ?_)
  · refine sim_iload 3 rfl dX11_hideAt_105 ?_
    exact sim_iret rfl rfl dX11_hideAt_107
  · refine sim_iload 3 rfl dX11_hideAt_21 ?_
    refine sim_if_le (tgt := 105) dX11_hideAt_23 (by decide) (fun c2 => ?_) (fun c2 => ?_)
    · refine sim_iload 3 rfl dX11_hideAt_105 ?_
      exact sim_iret rfl rfl dX11_hideAt_107
    · refine sim_iload 5 rfl dX11_hideAt_26 ?_
      refine sim_aload_n 0 rfl dX11_hideAt_28 ?_
      refine sim_getR flX11_53 rfl rfl dX11_hideAt_29 ?_
      refine sim_iload_n 1 rfl dX11_hideAt_32 ?_
      refine sim_cS (As := [.ref 49, .int x1]) (st := [.int x6]) (r := (some (.int (fX11_at 49 x1 h)))) (h1 := h) (okX11_at 49 rfl x1 h) (fun _ => rfl) mlX11_164 mtX11_at rfl (Nat.le_of_ble_eq_true rfl) rfl (Nat.le_of_ble_eq_true rfl) dX11_hideAt_33 ?_
      refine sim_icmp_eq (tgt := 99) dX11_hideAt_36 (by decide) (fun c3 => ?_) (fun c3 => ?_)
      · refine sim_iinc (v := x6 + 1) (L' := [(6, .int (x6 + 1)), (0, .ref 0), (1, .int x1), (2, .int x2), (4, .int x4), (5, .int x5)]) 5 rfl rfl rfl (by decide) dX11_hideAt_99 ?_
        refine sim_goto (tgt := 9) dX11_hideAt_102 (by decide) ?_
        refine sim_sub [1, 2, 3, 4, 5, 0] rfl ?_
        exact hR x4 x5 (x6 + 1) h
      · refine sim_iload 4 rfl dX11_hideAt_39 ?_
        refine sim_letJ (fun J4 => Sim RX11 cX11_hideAt 8 (some .int) 7 (Option.map oI) (J4) 54 [(0, .ref 0), (1, .int x1), (2, .int x2), (4, .int x4), (6, .int x6)] [] h) (?_) (fun J4 hJ4 => ?_)
        · refine sim_iconst (v := 1) (by decide) dX11_hideAt_54 ?_
          refine sim_istore (L' := [(5, .int (1 : Int32)), (0, .ref 0), (1, .int x1), (2, .int x2), (4, .int x4), (6, .int x6)]) rfl (by decide) dX11_hideAt_55 ?_
          refine sim_aload_n 1 rfl dX11_hideAt_57 ?_
          refine sim_iload_n 2 rfl dX11_hideAt_58 ?_
          refine sim_iload 5 rfl dX11_hideAt_59 ?_
          refine sim_iload_n 3 rfl dX11_hideAt_61 ?_
          refine sim_iload 4 rfl dX11_hideAt_62 ?_
          refine sim_bind (fun b5 e6 => ?_)
          refine sim_cV (As := [.int x1, .int x6, .int x2, .int x4]) (st := []) (r := (some (.int b5.1))) (h1 := b5.2) (okX11_findersOf x1 x6 x2 x4 h b5 e6) (fun _ => rfl) mlX11_362 mtX11_findersOf rfl rfl rfl rfl (Nat.le_of_ble_eq_true rfl) rfl (Nat.le_of_ble_eq_true rfl) dX11_hideAt_64 ?_
          refine sim_istore (L' := [(7, .int b5.1), (5, .int (1 : Int32)), (0, .ref 0), (1, .int x1), (2, .int x2), (4, .int x4), (6, .int x6)]) rfl (by decide) dX11_hideAt_67 ?_
          refine sim_iload 0 rfl dX11_hideAt_69 ?_
          refine sim_iload 5 rfl dX11_hideAt_71 ?_
          refine sim_icmp_ge (tgt := 99) dX11_hideAt_73 (by decide) (fun c7 => ?_) (fun c7 => ?_)
          · refine sim_iinc (v := x6 + 1) (L' := [(6, .int (x6 + 1)), (7, .int b5.1), (5, .int (1 : Int32)), (0, .ref 0), (1, .int x1), (2, .int x2), (4, .int x4)]) 6 rfl rfl rfl (by decide) dX11_hideAt_99 ?_
            refine sim_goto (tgt := 9) dX11_hideAt_102 (by decide) ?_
            refine sim_sub [3, 4, 5, 6, 2, 0] rfl ?_
            exact hR x4 (1 : Int32) (x6 + 1) b5.2
          · refine sim_iload 0 rfl dX11_hideAt_76 ?_
            refine sim_istore (L' := [(4, .int b5.1), (7, .int b5.1), (5, .int (1 : Int32)), (0, .ref 0), (1, .int x1), (2, .int x2), (6, .int x6)]) rfl (by decide) dX11_hideAt_78 ?_
            refine sim_aload_n 3 rfl dX11_hideAt_80 ?_
            refine sim_getR flX11_63 rfl rfl dX11_hideAt_81 ?_
            refine sim_iconst (v := 1) (by decide) dX11_hideAt_84 ?_
            refine sim_iload_n 4 rfl dX11_hideAt_85 ?_
            refine sim_cS (As := [.ref 52, .int (1 : Int32), .int x1]) (st := []) (r := none) (h1 := (fX11_put 52 (1 : Int32) x1 b5.2)) (okX11_put 52 rfl (1 : Int32) x1 b5.2) (fun _ => rfl) mlX11_112 mtX11_put rfl (Nat.le_of_ble_eq_true rfl) rfl (Nat.le_of_ble_eq_true rfl) dX11_hideAt_86 ?_
            refine sim_nmH (fun g8 => ?_)
            refine sim_aload_n 3 rfl dX11_hideAt_89 ?_
            refine sim_getR flX11_63 rfl rfl dX11_hideAt_90 ?_
            refine sim_iconst (v := 2) (by decide) dX11_hideAt_93 ?_
            refine sim_iload 6 rfl dX11_hideAt_94 ?_
            refine sim_cS (As := [.ref 52, .int (2 : Int32), .int x6]) (st := []) (r := none) (h1 := (fX11_put 52 (2 : Int32) x6 g8)) (okX11_put 52 rfl (2 : Int32) x6 g8) (fun _ => rfl) mlX11_112 mtX11_put rfl (Nat.le_of_ble_eq_true rfl) rfl (Nat.le_of_ble_eq_true rfl) dX11_hideAt_96 ?_
            refine sim_nmH (fun g9 => ?_)
            refine sim_iinc (v := x6 + 1) (L' := [(6, .int (x6 + 1)), (4, .int b5.1), (7, .int b5.1), (5, .int (1 : Int32)), (0, .ref 0), (1, .int x1), (2, .int x2)]) 6 rfl rfl rfl (by decide) dX11_hideAt_99 ?_
            refine sim_goto (tgt := 9) dX11_hideAt_102 (by decide) ?_
            refine sim_sub [4, 5, 6, 1, 3, 0] rfl ?_
            exact hR b5.1 (1 : Int32) (x6 + 1) g9
        refine sim_if_eq (tgt := 54) dX11_hideAt_41 (by decide) (fun c10 => ?_) (fun c10 => ?_)
        · refine sim_sub [0, 1, 2, 3, 5] rfl ?_
          exact hJ4
        · refine sim_aload_n 0 rfl dX11_hideAt_44 ?_
          refine sim_getR flX11_49 rfl rfl dX11_hideAt_45 ?_
          refine sim_getI flX11_359 rfl rfl dX11_hideAt_48 ?_
          refine sim_if_eq (tgt := 99) dX11_hideAt_51 (by decide) (fun c11 => ?_) (fun c11 => ?_)
          · refine sim_iinc (v := x6 + 1) (L' := [(6, .int (x6 + 1)), (0, .ref 0), (1, .int x1), (2, .int x2), (4, .int x4), (5, .int x5)]) 5 rfl rfl rfl (by decide) dX11_hideAt_99 ?_
            refine sim_goto (tgt := 9) dX11_hideAt_102 (by decide) ?_
            refine sim_sub [1, 2, 3, 4, 5, 0] rfl ?_
            exact hR x4 x5 (x6 + 1) h
          · refine sim_sub [0, 1, 2, 3, 5] rfl ?_
            exact hJ4
theorem sX11_hideAt_l9 {x1 : Int32} {x2 : Int32} : ∀ (n : Nat) (x4 : Int32) (x5 : Int32) (x6 : Int32) (h : AH), Sim RX11 cX11_hideAt 8 (some .int) 7 (Option.map oI) (fX11_hideAt_l9 x1 x2 n x4 x5 x6 h) 9 [(0, .ref 0), (1, .int x1), (2, .int x2), (4, .int x4), (5, .int x5), (6, .int x6)] [] h := by
  intro n
  induction n with
  | zero => intro x4 x5 x6 h; exact sim_none
  | succ n ih => intro x4 x5 x6 h; exact sX11_hideAt_l9b ih x4 x5 x6 h
def fX11_hideAt (p1 : Int32) (p2 : Int32) (p3 : Int32) (h : AH) : Option (Int32 × AH) :=
  fX11_hideAt_l9 p1 p2 fuel0 p3 (0 : Int32) (0 : Int32) h
theorem sX11_hideAt (p1 : Int32) (p2 : Int32) (p3 : Int32) (h : AH) : Sim RX11 cX11_hideAt 8 (some .int) 7 (Option.map oI) (fX11_hideAt p1 p2 p3 h) 0 [(0, .ref 0), (1, .int p1), (2, .int p2), (3, .int p3)] [] h := by
  unfold fX11_hideAt
  refine sim_iload_n 3 rfl dX11_hideAt_0 ?_
  refine sim_istore (L' := [(4, .int p3), (0, .ref 0), (1, .int p1), (2, .int p2), (3, .int p3)]) rfl (by decide) dX11_hideAt_1 ?_
  refine sim_iconst (v := 0) (by decide) dX11_hideAt_3 ?_
  refine sim_istore (L' := [(5, .int (0 : Int32)), (4, .int p3), (0, .ref 0), (1, .int p1), (2, .int p2), (3, .int p3)]) rfl (by decide) dX11_hideAt_4 ?_
  refine sim_iconst (v := 0) (by decide) dX11_hideAt_6 ?_
  refine sim_istore (L' := [(6, .int (0 : Int32)), (5, .int (0 : Int32)), (4, .int p3), (0, .ref 0), (1, .int p1), (2, .int p2), (3, .int p3)]) rfl (by decide) dX11_hideAt_7 ?_
  refine sim_sub [3, 4, 5, 2, 1, 0] rfl ?_
  refine sX11_hideAt_l9 _ p3 (0 : Int32) (0 : Int32) h
theorem okX11_hideAt (p1 : Int32) (p2 : Int32) (p3 : Int32) (h : AH) (b : Int32 × AH) (e : fX11_hideAt p1 p2 p3 h = some b) : Ok yX11_hideAt cX11_hideAt 8 (some .int) 7 [.ref 0, .int p1, .int p2, .int p3] h (some (.int b.1), b.2) := ok_of (sX11_hideAt p1 p2 p3 h) (by rw [e]; rfl) (by decide +kernel) (Nat.le_of_ble_eq_true rfl)
def fX11_hidden_l57b (rec : Int32 → Int32 → AH → Option (Int32 × AH)) (K91 : Int32 → AH → Option (Int32 × AH)) (x1 : Int32) (x2 : Int32) (x3 : Int32) (x4 : Int32) (h : AH) : Option (Int32 × AH) :=
  if x4 < (h.1 6 0) then
    if 0 < x3 then
      (fX11_hideAt x4 x1 x3 h).bind (fun b12 =>
      rec b12.1 (x4 + 1) b12.2)
    else
      K91 x3 h
  else
    K91 x3 h
def fX11_hidden_l57 (K91 : Int32 → AH → Option (Int32 × AH)) (x1 : Int32) (x2 : Int32) : Nat → Int32 → Int32 → AH → Option (Int32 × AH)
  | 0, _, _, _ => none
  | n + 1, x3, x4, h => fX11_hidden_l57b (fX11_hidden_l57 K91 x1 x2 n) K91 x1 x2 x3 x4 h
theorem sX11_hidden_l57b {rec : Int32 → Int32 → AH → Option (Int32 × AH)} {K91 : Int32 → AH → Option (Int32 × AH)} {x1 : Int32} {x2 : Int32} (hR : ∀ (x3 : Int32) (x4 : Int32) (h : AH), Sim RX11 cX11_hidden 5 (some .int) 8 (Option.map oI) (rec x3 x4 h) 57 [(0, .ref 0), (1, .int x1), (2, .int x2), (3, .int x3), (4, .int x4)] [] h) (hK91 : ∀ (y3 : Int32) (g : AH), Sim RX11 cX11_hidden 5 (some .int) 8 (Option.map oI) (K91 y3 g) 91 [(0, .ref 0), (2, .int x2), (3, .int y3)] [] g) : ∀ (x3 : Int32) (x4 : Int32) (h : AH), Sim RX11 cX11_hidden 5 (some .int) 8 (Option.map oI) (fX11_hidden_l57b rec K91 x1 x2 x3 x4 h) 57 [(0, .ref 0), (1, .int x1), (2, .int x2), (3, .int x3), (4, .int x4)] [] h := by
  intro x3 x4 h
  unfold fX11_hidden_l57b
  refine sim_iload 4 rfl dX11_hidden_57 ?_
  refine sim_aload_n 0 rfl dX11_hidden_59 ?_
  refine sim_getR flX11_19 rfl rfl dX11_hidden_60 ?_
  refine sim_getR flX11_133 rfl rfl dX11_hidden_63 ?_
  refine sim_getI flX11_198 rfl rfl dX11_hidden_66 ?_
  refine sim_icmp_ge (tgt := 91) dX11_hidden_69 (by decide) (fun c10 => ?_) (fun c10 => ?_)
  · refine sim_sub [0, 2, 3] rfl ?_
    exact hK91 x3 h
  · refine sim_iload_n 3 rfl dX11_hidden_72 ?_
    refine sim_if_le (tgt := 91) dX11_hidden_73 (by decide) (fun c11 => ?_) (fun c11 => ?_)
    · refine sim_sub [0, 2, 3] rfl ?_
      exact hK91 x3 h
    · refine sim_aload_n 0 rfl dX11_hidden_76 ?_
      refine sim_iload 4 rfl dX11_hidden_77 ?_
      refine sim_iload_n 1 rfl dX11_hidden_79 ?_
      refine sim_iload_n 3 rfl dX11_hidden_80 ?_
      refine sim_bind (fun b12 e13 => ?_)
      refine sim_cV (As := [.int x4, .int x1, .int x3]) (st := []) (r := (some (.int b12.1))) (h1 := b12.2) (okX11_hideAt x4 x1 x3 h b12 e13) (fun _ => rfl) mlX11_245 mtX11_hideAt rfl rfl rfl rfl (Nat.le_of_ble_eq_true rfl) rfl (Nat.le_of_ble_eq_true rfl) dX11_hidden_81 ?_
      refine sim_istore_n (L' := [(3, .int b12.1), (0, .ref 0), (1, .int x1), (2, .int x2), (4, .int x4)]) rfl (by decide) dX11_hidden_84 ?_
      refine sim_iinc (v := x4 + 1) (L' := [(4, .int (x4 + 1)), (3, .int b12.1), (0, .ref 0), (1, .int x1), (2, .int x2)]) 4 rfl rfl rfl (by decide) dX11_hidden_85 ?_
      refine sim_goto (tgt := 57) dX11_hidden_88 (by decide) ?_
      refine sim_sub [2, 3, 4, 1, 0] rfl ?_
      exact hR b12.1 (x4 + 1) b12.2
theorem sX11_hidden_l57 {K91 : Int32 → AH → Option (Int32 × AH)} {x1 : Int32} {x2 : Int32} (hK91 : ∀ (y3 : Int32) (g : AH), Sim RX11 cX11_hidden 5 (some .int) 8 (Option.map oI) (K91 y3 g) 91 [(0, .ref 0), (2, .int x2), (3, .int y3)] [] g) : ∀ (n : Nat) (x3 : Int32) (x4 : Int32) (h : AH), Sim RX11 cX11_hidden 5 (some .int) 8 (Option.map oI) (fX11_hidden_l57 K91 x1 x2 n x3 x4 h) 57 [(0, .ref 0), (1, .int x1), (2, .int x2), (3, .int x3), (4, .int x4)] [] h := by
  intro n
  induction n with
  | zero => intro x3 x4 h; exact sim_none
  | succ n ih => intro x3 x4 h; exact sX11_hidden_l57b ih hK91 x3 x4 h
def fX11_hidden (p1 : Int32) (p2 : Int32) (h : AH) : Option (Int32 × AH) :=
  if (fX11_areHearers p1 h) = 0 then
    some ((-1 : Int32), h)
  else
    if p1 = 0 then
      some ((-1 : Int32), h)
    else
      if p2 < 0 then
        some ((-1 : Int32), h)
      else
        if (2 : Int32) < p2 then
          some ((-1 : Int32), h)
        else
          if (h.1 6 0) = 0 then
            some ((-1 : Int32), h)
          else
            (fX9_workOn (0 : Int32) 49 h).bind (fun b6 =>
            (fX11_forgetFound b6).bind (fun b8 =>
            fX11_hidden_l57 (fun (y14 : Int32) (g15 : AH) =>
              if p2 = (2 : Int32) then
                some (y14, g15)
              else
                some (fX11_at 52 (p2 + (1 : Int32)) g15, g15)) p1 p2 fuel0 (11 : Int32) (0 : Int32) b8))
theorem sX11_hidden (p1 : Int32) (p2 : Int32) (h : AH) : Sim RX11 cX11_hidden 5 (some .int) 8 (Option.map oI) (fX11_hidden p1 p2 h) 0 [(0, .ref 0), (1, .int p1), (2, .int p2)] [] h := by
  unfold fX11_hidden
  refine sim_iload_n 1 rfl dX11_hidden_0 ?_
  refine sim_cS (As := [.int p1]) (st := []) (r := (some (.int (fX11_areHearers p1 h)))) (h1 := h) (okX11_areHearers p1 h) (fun _ => rfl) mlX11_242 mtX11_areHearers rfl (Nat.le_of_ble_eq_true rfl) rfl (Nat.le_of_ble_eq_true rfl) dX11_hidden_1 ?_
  refine sim_if_eq (tgt := 33) dX11_hidden_4 (by decide) (fun c1 => ?_) (fun c1 => ?_)
  · refine sim_iconst (v := -1) (by decide) dX11_hidden_33 ?_
    exact sim_iret rfl rfl dX11_hidden_34
  · refine sim_iload_n 1 rfl dX11_hidden_7 ?_
    refine sim_if_eq (tgt := 33) dX11_hidden_8 (by decide) (fun c2 => ?_) (fun c2 => ?_)
    · refine sim_iconst (v := -1) (by decide) dX11_hidden_33 ?_
      exact sim_iret rfl rfl dX11_hidden_34
    · refine sim_iload_n 2 rfl dX11_hidden_11 ?_
      refine sim_if_lt (tgt := 33) dX11_hidden_12 (by decide) (fun c3 => ?_) (fun c3 => ?_)
      · refine sim_iconst (v := -1) (by decide) dX11_hidden_33 ?_
        exact sim_iret rfl rfl dX11_hidden_34
      · refine sim_iload_n 2 rfl dX11_hidden_15 ?_
        refine sim_iconst (v := 2) (by decide) dX11_hidden_16 ?_
        refine sim_icmp_gt (tgt := 33) dX11_hidden_17 (by decide) (fun c4 => ?_) (fun c4 => ?_)
        · refine sim_iconst (v := -1) (by decide) dX11_hidden_33 ?_
          exact sim_iret rfl rfl dX11_hidden_34
        · refine sim_aload_n 0 rfl dX11_hidden_20 ?_
          refine sim_getR flX11_19 rfl rfl dX11_hidden_21 ?_
          refine sim_getR flX11_133 rfl rfl dX11_hidden_24 ?_
          refine sim_getI flX11_198 rfl rfl dX11_hidden_27 ?_
          refine sim_if_ne (tgt := 35) dX11_hidden_30 (by decide) (fun c5 => ?_) (fun c5 => ?_)
          · refine sim_aload_n 0 rfl dX11_hidden_35 ?_
            refine sim_getR flX11_19 rfl rfl dX11_hidden_36 ?_
            refine sim_iconst (v := 0) (by decide) dX11_hidden_39 ?_
            refine sim_aload_n 0 rfl dX11_hidden_40 ?_
            refine sim_getR flX11_53 rfl rfl dX11_hidden_41 ?_
            refine sim_bind (fun b6 e7 => ?_)
            refine sim_cV (As := [.int (0 : Int32), .ref 49]) (st := []) (r := none) (h1 := b6) (okX9_workOn (0 : Int32) 49 rfl h b6 e7) (fun _ => rfl) mlX11_174 mtX9_workOn rfl rfl rfl rfl (Nat.le_of_ble_eq_true rfl) rfl (Nat.le_of_ble_eq_true rfl) dX11_hidden_44 ?_
            refine sim_aload_n 0 rfl dX11_hidden_47 ?_
            refine sim_bind (fun b8 e9 => ?_)
            refine sim_cV (As := []) (st := []) (r := none) (h1 := b8) (okX11_forgetFound b6 b8 e9) (fun _ => rfl) mlX11_219 mtX11_forgetFound rfl rfl rfl rfl (Nat.le_of_ble_eq_true rfl) rfl (Nat.le_of_ble_eq_true rfl) dX11_hidden_48 ?_
            refine sim_bipush (v := 11) (by decide) dX11_hidden_51 ?_
            refine sim_istore_n (L' := [(3, .int (11 : Int32)), (0, .ref 0), (1, .int p1), (2, .int p2)]) rfl (by decide) dX11_hidden_53 ?_
            refine sim_iconst (v := 0) (by decide) dX11_hidden_54 ?_
            refine sim_istore (L' := [(4, .int (0 : Int32)), (3, .int (11 : Int32)), (0, .ref 0), (1, .int p1), (2, .int p2)]) rfl (by decide) dX11_hidden_55 ?_
            refine sim_sub [2, 3, 4, 1, 0] rfl ?_
            refine sX11_hidden_l57 (fun y14 g15 => ?_) _ (11 : Int32) (0 : Int32) b8
            · refine sim_iload_n 1 rfl dX11_hidden_91 ?_
              refine sim_iconst (v := 2) (by decide) dX11_hidden_92 ?_
              refine sim_icmp_ne (tgt := 100) dX11_hidden_93 (by decide) (fun c16 => ?_) (fun c16 => ?_)
              · refine sim_aload_n 0 rfl dX11_hidden_100 ?_
                refine sim_getR flX11_63 rfl rfl dX11_hidden_101 ?_
                refine sim_iload_n 1 rfl dX11_hidden_104 ?_
                refine sim_iconst (v := 1) (by decide) dX11_hidden_105 ?_
                refine sim_iadd dX11_hidden_106 ?_
                refine sim_cS (As := [.ref 52, .int (p2 + (1 : Int32))]) (st := []) (r := (some (.int (fX11_at 52 (p2 + (1 : Int32)) g15)))) (h1 := g15) (okX11_at 52 rfl (p2 + (1 : Int32)) g15) (fun _ => rfl) mlX11_164 mtX11_at rfl (Nat.le_of_ble_eq_true rfl) rfl (Nat.le_of_ble_eq_true rfl) dX11_hidden_107 ?_
                exact sim_iret rfl rfl dX11_hidden_110
              · refine sim_iload_n 2 rfl dX11_hidden_96 ?_
                refine sim_goto (tgt := 110) dX11_hidden_97 (by decide) ?_
                exact sim_iret rfl rfl dX11_hidden_110
          · refine sim_iconst (v := -1) (by decide) dX11_hidden_33 ?_
            exact sim_iret rfl rfl dX11_hidden_34
theorem okX11_hidden (p1 : Int32) (p2 : Int32) (h : AH) (b : Int32 × AH) (e : fX11_hidden p1 p2 h = some b) : Ok yX11_hidden cX11_hidden 5 (some .int) 8 [.ref 0, .int p1, .int p2] h (some (.int b.1), b.2) := ok_of (sX11_hidden p1 p2 h) (by rw [e]; rfl) (by decide +kernel) (Nat.le_of_ble_eq_true rfl)
def fX6_allLines (h : AH) : Int32 :=
  (fX11_bit (h.1 6 0) h) - (1 : Int32)
theorem sX6_allLines (h : AH) : Sim RX6 cX6_allLines 1 (some .int) 2 (tI h) (fX6_allLines h) 0 [(0, .ref 6)] [] h := by
  unfold fX6_allLines
  refine sim_aload_n 0 rfl dX6_allLines_0 ?_
  refine sim_getI flX6_9 rfl rfl dX6_allLines_1 ?_
  refine sim_cS (As := [.int (h.1 6 0)]) (st := []) (r := (some (.int (fX11_bit (h.1 6 0) h)))) (h1 := h) (okX11_bit (h.1 6 0) h) (fun _ => rfl) mlX6_59 mtX11_bit rfl (Nat.le_of_ble_eq_true rfl) rfl (Nat.le_of_ble_eq_true rfl) dX6_allLines_4 ?_
  refine sim_iconst (v := 1) (by decide) dX6_allLines_7 ?_
  refine sim_isub dX6_allLines_8 ?_
  exact sim_iret rfl rfl dX6_allLines_9
theorem okX6_allLines (h : AH) : Ok yX6_allLines cX6_allLines 1 (some .int) 2 [.ref 6] h (some (.int (fX6_allLines h)), h) := ok_of (sX6_allLines h) rfl (by decide +kernel) (Nat.le_of_ble_eq_true rfl)
def fX11_unread_l22b (rec : Int32 → Int32 → AH → Option (Int32 × AH)) (x1 : Int32) (x2 : Int32) (x3 : Int32) (h : AH) : Option (Int32 × AH) :=
  if x3 < (10 : Int32) then
    if (fX11_isIn x1 x3 h) = 0 then
      rec x2 (x3 + 1) h
    else
      (fX11_linesReadBy x3 h).bind (fun b4 =>
      letT (x2 &&& (b4.1 ^^^ (-1 : Int32))) (fun v6 =>
      rec v6 (x3 + 1) b4.2))
  else
    some (x2, h)
def fX11_unread_l22 (x1 : Int32) : Nat → Int32 → Int32 → AH → Option (Int32 × AH)
  | 0, _, _, _ => none
  | n + 1, x2, x3, h => fX11_unread_l22b (fX11_unread_l22 x1 n) x1 x2 x3 h
theorem sX11_unread_l22b {rec : Int32 → Int32 → AH → Option (Int32 × AH)} {x1 : Int32} (hR : ∀ (x2 : Int32) (x3 : Int32) (h : AH), Sim RX11 cX11_unread 4 (some .int) 7 (Option.map oI) (rec x2 x3 h) 22 [(0, .ref 0), (1, .int x1), (2, .int x2), (3, .int x3)] [] h) : ∀ (x2 : Int32) (x3 : Int32) (h : AH), Sim RX11 cX11_unread 4 (some .int) 7 (Option.map oI) (fX11_unread_l22b rec x1 x2 x3 h) 22 [(0, .ref 0), (1, .int x1), (2, .int x2), (3, .int x3)] [] h := by
  intro x2 x3 h
  unfold fX11_unread_l22b
  refine sim_iload_n 3 rfl dX11_unread_22 ?_
  refine sim_bipush (v := 10) (by decide) dX11_unread_23 ?_
  refine sim_icmp_ge (tgt := 52) dX11_unread_25 (by decide) (fun c2 => ?_) (fun c2 => ?_)
  · refine sim_iload_n 2 rfl dX11_unread_52 ?_
    exact sim_iret rfl rfl dX11_unread_53
  · refine sim_iload_n 1 rfl dX11_unread_28 ?_
    refine sim_iload_n 3 rfl dX11_unread_29 ?_
    refine sim_cS (As := [.int x1, .int x3]) (st := []) (r := (some (.int (fX11_isIn x1 x3 h)))) (h1 := h) (okX11_isIn x1 x3 h) (fun _ => rfl) mlX11_252 mtX11_isIn rfl (Nat.le_of_ble_eq_true rfl) rfl (Nat.le_of_ble_eq_true rfl) dX11_unread_30 ?_
    refine sim_if_eq (tgt := 46) dX11_unread_33 (by decide) (fun c3 => ?_) (fun c3 => ?_)
    · refine sim_iinc (v := x3 + 1) (L' := [(3, .int (x3 + 1)), (0, .ref 0), (1, .int x1), (2, .int x2)]) 3 rfl rfl rfl (by decide) dX11_unread_46 ?_
      refine sim_goto (tgt := 22) dX11_unread_49 (by decide) ?_
      refine sim_sub [1, 2, 3, 0] rfl ?_
      exact hR x2 (x3 + 1) h
    · refine sim_iload_n 2 rfl dX11_unread_36 ?_
      refine sim_aload_n 0 rfl dX11_unread_37 ?_
      refine sim_iload_n 3 rfl dX11_unread_38 ?_
      refine sim_bind (fun b4 e5 => ?_)
      refine sim_cV (As := [.int x3]) (st := [.int x2]) (r := (some (.int b4.1))) (h1 := b4.2) (okX11_linesReadBy x3 h b4 e5) (fun _ => rfl) mlX11_236 mtX11_linesReadBy rfl rfl rfl rfl (Nat.le_of_ble_eq_true rfl) rfl (Nat.le_of_ble_eq_true rfl) dX11_unread_39 ?_
      refine sim_iconst (v := -1) (by decide) dX11_unread_42 ?_
      refine sim_ixor dX11_unread_43 ?_
      refine sim_iand dX11_unread_44 ?_
      refine sim_nmI (fun v6 => ?_)
      refine sim_istore_n (L' := [(2, .int v6), (0, .ref 0), (1, .int x1), (3, .int x3)]) rfl (by decide) dX11_unread_45 ?_
      refine sim_iinc (v := x3 + 1) (L' := [(3, .int (x3 + 1)), (2, .int v6), (0, .ref 0), (1, .int x1)]) 3 rfl rfl rfl (by decide) dX11_unread_46 ?_
      refine sim_goto (tgt := 22) dX11_unread_49 (by decide) ?_
      refine sim_sub [2, 3, 1, 0] rfl ?_
      exact hR v6 (x3 + 1) b4.2
theorem sX11_unread_l22 {x1 : Int32} : ∀ (n : Nat) (x2 : Int32) (x3 : Int32) (h : AH), Sim RX11 cX11_unread 4 (some .int) 7 (Option.map oI) (fX11_unread_l22 x1 n x2 x3 h) 22 [(0, .ref 0), (1, .int x1), (2, .int x2), (3, .int x3)] [] h := by
  intro n
  induction n with
  | zero => intro x2 x3 h; exact sim_none
  | succ n ih => intro x2 x3 h; exact sX11_unread_l22b ih x2 x3 h
def fX11_unread (p1 : Int32) (h : AH) : Option (Int32 × AH) :=
  if (fX11_areHearers p1 h) = 0 then
    some ((-1 : Int32), h)
  else
    fX11_unread_l22 p1 fuel0 (fX6_allLines h) (0 : Int32) h
theorem sX11_unread (p1 : Int32) (h : AH) : Sim RX11 cX11_unread 4 (some .int) 7 (Option.map oI) (fX11_unread p1 h) 0 [(0, .ref 0), (1, .int p1)] [] h := by
  unfold fX11_unread
  refine sim_iload_n 1 rfl dX11_unread_0 ?_
  refine sim_cS (As := [.int p1]) (st := []) (r := (some (.int (fX11_areHearers p1 h)))) (h1 := h) (okX11_areHearers p1 h) (fun _ => rfl) mlX11_242 mtX11_areHearers rfl (Nat.le_of_ble_eq_true rfl) rfl (Nat.le_of_ble_eq_true rfl) dX11_unread_1 ?_
  refine sim_if_ne (tgt := 9) dX11_unread_4 (by decide) (fun c1 => ?_) (fun c1 => ?_)
  · refine sim_aload_n 0 rfl dX11_unread_9 ?_
    refine sim_getR flX11_19 rfl rfl dX11_unread_10 ?_
    refine sim_getR flX11_133 rfl rfl dX11_unread_13 ?_
    refine sim_cV (As := []) (st := []) (r := (some (.int (fX6_allLines h)))) (h1 := h) (okX6_allLines h) (fun _ => rfl) mlX11_249 mtX6_allLines rfl rfl rfl rfl (Nat.le_of_ble_eq_true rfl) rfl (Nat.le_of_ble_eq_true rfl) dX11_unread_16 ?_
    refine sim_istore_n (L' := [(2, .int (fX6_allLines h)), (0, .ref 0), (1, .int p1)]) rfl (by decide) dX11_unread_19 ?_
    refine sim_iconst (v := 0) (by decide) dX11_unread_20 ?_
    refine sim_istore_n (L' := [(3, .int (0 : Int32)), (2, .int (fX6_allLines h)), (0, .ref 0), (1, .int p1)]) rfl (by decide) dX11_unread_21 ?_
    refine sim_sub [2, 3, 1, 0] rfl ?_
    refine sX11_unread_l22 _ (fX6_allLines h) (0 : Int32) h
  · refine sim_iconst (v := -1) (by decide) dX11_unread_7 ?_
    exact sim_iret rfl rfl dX11_unread_8
theorem okX11_unread (p1 : Int32) (h : AH) (b : Int32 × AH) (e : fX11_unread p1 h = some b) : Ok yX11_unread cX11_unread 4 (some .int) 7 [.ref 0, .int p1] h (some (.int b.1), b.2) := ok_of (sX11_unread p1 h) (by rw [e]; rfl) (by decide +kernel) (Nat.le_of_ble_eq_true rfl)
def fX11_readAll_l4b (rec : Int32 → Int32 → Option Int32) (K35 : Int32 → Option Int32) (x1 : Int32) (h : AH) (x2 : Int32) (x3 : Int32) : Option Int32 :=
  if x3 < (10 : Int32) then
    if (fX11_isIn x1 x3 h) = 0 then
      rec x2 (x3 + 1)
    else
      letT (x2 ||| (fX11_at 51 x3 h)) (fun v3 =>
      rec v3 (x3 + 1))
  else
    K35 x2
def fX11_readAll_l4 (K35 : Int32 → Option Int32) (x1 : Int32) (h : AH) : Nat → Int32 → Int32 → Option Int32
  | 0, _, _ => none
  | n + 1, x2, x3 => fX11_readAll_l4b (fX11_readAll_l4 K35 x1 h n) K35 x1 h x2 x3
theorem sX11_readAll_l4b {rec : Int32 → Int32 → Option Int32} {K35 : Int32 → Option Int32} {x1 : Int32} {h : AH} (hR : ∀ (x2 : Int32) (x3 : Int32), Sim RX11 cX11_readAll 4 (some .boolean) 3 (Option.map (pI h)) (rec x2 x3) 4 [(0, .ref 0), (1, .int x1), (2, .int x2), (3, .int x3)] [] h) (hK35 : ∀ (y2 : Int32), Sim RX11 cX11_readAll 4 (some .boolean) 3 (Option.map (pI h)) (K35 y2) 35 [(0, .ref 0), (2, .int y2)] [] h) : ∀ (x2 : Int32) (x3 : Int32), Sim RX11 cX11_readAll 4 (some .boolean) 3 (Option.map (pI h)) (fX11_readAll_l4b rec K35 x1 h x2 x3) 4 [(0, .ref 0), (1, .int x1), (2, .int x2), (3, .int x3)] [] h := by
  intro x2 x3
  unfold fX11_readAll_l4b
  refine sim_iload_n 3 rfl dX11_readAll_4 ?_
  refine sim_bipush (v := 10) (by decide) dX11_readAll_5 ?_
  refine sim_icmp_ge (tgt := 35) dX11_readAll_7 (by decide) (fun c1 => ?_) (fun c1 => ?_)
  · refine sim_sub [0, 2] rfl ?_
    exact hK35 x2
  · refine sim_iload_n 1 rfl dX11_readAll_10 ?_
    refine sim_iload_n 3 rfl dX11_readAll_11 ?_
    refine sim_cS (As := [.int x1, .int x3]) (st := []) (r := (some (.int (fX11_isIn x1 x3 h)))) (h1 := h) (okX11_isIn x1 x3 h) (fun _ => rfl) mlX11_252 mtX11_isIn rfl (Nat.le_of_ble_eq_true rfl) rfl (Nat.le_of_ble_eq_true rfl) dX11_readAll_12 ?_
    refine sim_if_eq (tgt := 29) dX11_readAll_15 (by decide) (fun c2 => ?_) (fun c2 => ?_)
    · refine sim_iinc (v := x3 + 1) (L' := [(3, .int (x3 + 1)), (0, .ref 0), (1, .int x1), (2, .int x2)]) 3 rfl rfl rfl (by decide) dX11_readAll_29 ?_
      refine sim_goto (tgt := 4) dX11_readAll_32 (by decide) ?_
      refine sim_sub [1, 2, 3, 0] rfl ?_
      exact hR x2 (x3 + 1)
    · refine sim_iload_n 2 rfl dX11_readAll_18 ?_
      refine sim_aload_n 0 rfl dX11_readAll_19 ?_
      refine sim_getR flX11_60 rfl rfl dX11_readAll_20 ?_
      refine sim_iload_n 3 rfl dX11_readAll_23 ?_
      refine sim_cS (As := [.ref 51, .int x3]) (st := [.int x2]) (r := (some (.int (fX11_at 51 x3 h)))) (h1 := h) (okX11_at 51 rfl x3 h) (fun _ => rfl) mlX11_164 mtX11_at rfl (Nat.le_of_ble_eq_true rfl) rfl (Nat.le_of_ble_eq_true rfl) dX11_readAll_24 ?_
      refine sim_ior dX11_readAll_27 ?_
      refine sim_nmI (fun v3 => ?_)
      refine sim_istore_n (L' := [(2, .int v3), (0, .ref 0), (1, .int x1), (3, .int x3)]) rfl (by decide) dX11_readAll_28 ?_
      refine sim_iinc (v := x3 + 1) (L' := [(3, .int (x3 + 1)), (2, .int v3), (0, .ref 0), (1, .int x1)]) 3 rfl rfl rfl (by decide) dX11_readAll_29 ?_
      refine sim_goto (tgt := 4) dX11_readAll_32 (by decide) ?_
      refine sim_sub [2, 3, 1, 0] rfl ?_
      exact hR v3 (x3 + 1)
theorem sX11_readAll_l4 {K35 : Int32 → Option Int32} {x1 : Int32} {h : AH} (hK35 : ∀ (y2 : Int32), Sim RX11 cX11_readAll 4 (some .boolean) 3 (Option.map (pI h)) (K35 y2) 35 [(0, .ref 0), (2, .int y2)] [] h) : ∀ (n : Nat) (x2 : Int32) (x3 : Int32), Sim RX11 cX11_readAll 4 (some .boolean) 3 (Option.map (pI h)) (fX11_readAll_l4 K35 x1 h n x2 x3) 4 [(0, .ref 0), (1, .int x1), (2, .int x2), (3, .int x3)] [] h := by
  intro n
  induction n with
  | zero => intro x2 x3; exact sim_none
  | succ n ih => intro x2 x3; exact sX11_readAll_l4b ih hK35 x2 x3
def fX11_readAll (p1 : Int32) (h : AH) : Option Int32 :=
  fX11_readAll_l4 (fun (y4 : Int32) =>
    if y4 = (fX6_allLines h) then
      some (1 : Int32)
    else
      some (0 : Int32)) p1 h fuel0 (0 : Int32) (0 : Int32)
theorem sX11_readAll (p1 : Int32) (h : AH) : Sim RX11 cX11_readAll 4 (some .boolean) 3 (Option.map (pI h)) (fX11_readAll p1 h) 0 [(0, .ref 0), (1, .int p1)] [] h := by
  unfold fX11_readAll
  refine sim_iconst (v := 0) (by decide) dX11_readAll_0 ?_
  refine sim_istore_n (L' := [(2, .int (0 : Int32)), (0, .ref 0), (1, .int p1)]) rfl (by decide) dX11_readAll_1 ?_
  refine sim_iconst (v := 0) (by decide) dX11_readAll_2 ?_
  refine sim_istore_n (L' := [(3, .int (0 : Int32)), (2, .int (0 : Int32)), (0, .ref 0), (1, .int p1)]) rfl (by decide) dX11_readAll_3 ?_
  refine sim_sub [2, 3, 1, 0] rfl ?_
  refine sX11_readAll_l4 (fun y4 => ?_) _ (0 : Int32) (0 : Int32)
  · refine sim_iload_n 1 rfl dX11_readAll_35 ?_
    refine sim_aload_n 0 rfl dX11_readAll_36 ?_
    refine sim_getR flX11_19 rfl rfl dX11_readAll_37 ?_
    refine sim_getR flX11_133 rfl rfl dX11_readAll_40 ?_
    refine sim_cV (As := []) (st := [.int y4]) (r := (some (.int (fX6_allLines h)))) (h1 := h) (okX6_allLines h) (fun _ => rfl) mlX11_249 mtX6_allLines rfl rfl rfl rfl (Nat.le_of_ble_eq_true rfl) rfl (Nat.le_of_ble_eq_true rfl) dX11_readAll_43 ?_
    refine sim_icmp_ne (tgt := 53) dX11_readAll_46 (by decide) (fun c5 => ?_) (fun c5 => ?_)
    · refine sim_iconst (v := 0) (by decide) dX11_readAll_53 ?_
      exact sim_zret rfl rfl rfl dX11_readAll_54
    · refine sim_iconst (v := 1) (by decide) dX11_readAll_49 ?_
      refine sim_goto (tgt := 54) dX11_readAll_50 (by decide) ?_
      exact sim_zret rfl rfl rfl dX11_readAll_54
theorem okX11_readAll (p1 : Int32) (h : AH) (b : Int32) (e : fX11_readAll p1 h = some b) : Ok yX11_readAll cX11_readAll 4 (some .boolean) 3 [.ref 0, .int p1] h (some (.int b), h) := ok_of (sX11_readAll p1 h) (by rw [e]; rfl) (by decide +kernel) (Nat.le_of_ble_eq_true rfl)
def fX11_readers_l20b (rec : Int32 → AH → Option (Int32 × AH)) (K57 : AH → Option (Int32 × AH)) (x1 : Int32) (x2 : Int32) (x3 : Int32) (h : AH) : Option (Int32 × AH) :=
  if x3 < (10 : Int32) then
    if (fX11_isIn x1 x3 h) = 0 then
      letT (fX11_put 51 x3 (0 : Int32) h) (fun g6 =>
      rec (x3 + 1) g6)
    else
      (fX11_linesReadBy x3 h).bind (fun b7 =>
      letT (fX11_put 51 x3 b7.1 b7.2) (fun g9 =>
      rec (x3 + 1) g9))
  else
    K57 h
def fX11_readers_l20 (K57 : AH → Option (Int32 × AH)) (x1 : Int32) (x2 : Int32) : Nat → Int32 → AH → Option (Int32 × AH)
  | 0, _, _ => none
  | n + 1, x3, h => fX11_readers_l20b (fX11_readers_l20 K57 x1 x2 n) K57 x1 x2 x3 h
theorem sX11_readers_l20b {rec : Int32 → AH → Option (Int32 × AH)} {K57 : AH → Option (Int32 × AH)} {x1 : Int32} {x2 : Int32} (hR : ∀ (x3 : Int32) (h : AH), Sim RX11 cX11_readers 6 (some .int) 7 (Option.map oI) (rec x3 h) 20 [(0, .ref 0), (1, .int x1), (2, .int x2), (3, .int x3)] [] h) (hK57 : ∀ (g : AH), Sim RX11 cX11_readers 6 (some .int) 7 (Option.map oI) (K57 g) 57 [(0, .ref 0), (1, .int x1), (2, .int x2)] [] g) : ∀ (x3 : Int32) (h : AH), Sim RX11 cX11_readers 6 (some .int) 7 (Option.map oI) (fX11_readers_l20b rec K57 x1 x2 x3 h) 20 [(0, .ref 0), (1, .int x1), (2, .int x2), (3, .int x3)] [] h := by
  intro x3 h
  unfold fX11_readers_l20b
  refine sim_iload_n 3 rfl dX11_readers_20 ?_
  refine sim_bipush (v := 10) (by decide) dX11_readers_21 ?_
  refine sim_icmp_ge (tgt := 57) dX11_readers_23 (by decide) (fun c4 => ?_) (fun c4 => ?_)
  · refine sim_sub [0, 1, 2] rfl ?_
    exact hK57 h
  · refine sim_aload_n 0 rfl dX11_readers_26 ?_
    refine sim_getR flX11_60 rfl rfl dX11_readers_27 ?_
    refine sim_iload_n 3 rfl dX11_readers_30 ?_
    refine sim_iload_n 1 rfl dX11_readers_31 ?_
    refine sim_iload_n 3 rfl dX11_readers_32 ?_
    refine sim_cS (As := [.int x1, .int x3]) (st := [.int x3, .ref 51]) (r := (some (.int (fX11_isIn x1 x3 h)))) (h1 := h) (okX11_isIn x1 x3 h) (fun _ => rfl) mlX11_252 mtX11_isIn rfl (Nat.le_of_ble_eq_true rfl) rfl (Nat.le_of_ble_eq_true rfl) dX11_readers_33 ?_
    refine sim_if_eq (tgt := 47) dX11_readers_36 (by decide) (fun c5 => ?_) (fun c5 => ?_)
    · refine sim_iconst (v := 0) (by decide) dX11_readers_47 ?_
      refine sim_cS (As := [.ref 51, .int x3, .int (0 : Int32)]) (st := []) (r := none) (h1 := (fX11_put 51 x3 (0 : Int32) h)) (okX11_put 51 rfl x3 (0 : Int32) h) (fun _ => rfl) mlX11_112 mtX11_put rfl (Nat.le_of_ble_eq_true rfl) rfl (Nat.le_of_ble_eq_true rfl) dX11_readers_48 ?_
      refine sim_nmH (fun g6 => ?_)
      refine sim_iinc (v := x3 + 1) (L' := [(3, .int (x3 + 1)), (0, .ref 0), (1, .int x1), (2, .int x2)]) 3 rfl rfl rfl (by decide) dX11_readers_51 ?_
      refine sim_goto (tgt := 20) dX11_readers_54 (by decide) ?_
      refine sim_sub [1, 2, 3, 0] rfl ?_
      exact hR (x3 + 1) g6
    · refine sim_aload_n 0 rfl dX11_readers_39 ?_
      refine sim_iload_n 3 rfl dX11_readers_40 ?_
      refine sim_bind (fun b7 e8 => ?_)
      refine sim_cV (As := [.int x3]) (st := [.int x3, .ref 51]) (r := (some (.int b7.1))) (h1 := b7.2) (okX11_linesReadBy x3 h b7 e8) (fun _ => rfl) mlX11_236 mtX11_linesReadBy rfl rfl rfl rfl (Nat.le_of_ble_eq_true rfl) rfl (Nat.le_of_ble_eq_true rfl) dX11_readers_41 ?_
      refine sim_goto (tgt := 48) dX11_readers_44 (by decide) ?_
      refine sim_cS (As := [.ref 51, .int x3, .int b7.1]) (st := []) (r := none) (h1 := (fX11_put 51 x3 b7.1 b7.2)) (okX11_put 51 rfl x3 b7.1 b7.2) (fun _ => rfl) mlX11_112 mtX11_put rfl (Nat.le_of_ble_eq_true rfl) rfl (Nat.le_of_ble_eq_true rfl) dX11_readers_48 ?_
      refine sim_nmH (fun g9 => ?_)
      refine sim_iinc (v := x3 + 1) (L' := [(3, .int (x3 + 1)), (0, .ref 0), (1, .int x1), (2, .int x2)]) 3 rfl rfl rfl (by decide) dX11_readers_51 ?_
      refine sim_goto (tgt := 20) dX11_readers_54 (by decide) ?_
      refine sim_sub [1, 2, 3, 0] rfl ?_
      exact hR (x3 + 1) g9
theorem sX11_readers_l20 {K57 : AH → Option (Int32 × AH)} {x1 : Int32} {x2 : Int32} (hK57 : ∀ (g : AH), Sim RX11 cX11_readers 6 (some .int) 7 (Option.map oI) (K57 g) 57 [(0, .ref 0), (1, .int x1), (2, .int x2)] [] g) : ∀ (n : Nat) (x3 : Int32) (h : AH), Sim RX11 cX11_readers 6 (some .int) 7 (Option.map oI) (fX11_readers_l20 K57 x1 x2 n x3 h) 20 [(0, .ref 0), (1, .int x1), (2, .int x2), (3, .int x3)] [] h := by
  intro n
  induction n with
  | zero => intro x3 h; exact sim_none
  | succ n ih => intro x3 h; exact sX11_readers_l20b ih hK57 x3 h
def fX11_readers_l67b (rec : Int32 → Int32 → Int32 → Option (Int32 × AH)) (K117 : Int32 → Int32 → Option (Int32 × AH)) (x1 : Int32) (x2 : Int32) (h : AH) (x3 : Int32) (x4 : Int32) (x5 : Int32) : Option (Int32 × AH) :=
  if x1 < x5 then
    K117 x3 x4
  else
    if (x5 &&& (x1 ^^^ (-1 : Int32))) = 0 then
      if (fJ6_bitCount_0f7a4 x5 h) < x4 then
        (fX11_readAll x5 h).bind (fun b14 =>
        if b14 = 0 then
          rec x3 x4 (x5 + 1)
        else
          letT (fJ6_bitCount_0f7a4 x5 h) (fun v17 =>
          rec x5 v17 (x5 + 1)))
      else
        rec x3 x4 (x5 + 1)
    else
      rec x3 x4 (x5 + 1)
def fX11_readers_l67 (K117 : Int32 → Int32 → Option (Int32 × AH)) (x1 : Int32) (x2 : Int32) (h : AH) : Nat → Int32 → Int32 → Int32 → Option (Int32 × AH)
  | 0, _, _, _ => none
  | n + 1, x3, x4, x5 => fX11_readers_l67b (fX11_readers_l67 K117 x1 x2 h n) K117 x1 x2 h x3 x4 x5
theorem sX11_readers_l67b {rec : Int32 → Int32 → Int32 → Option (Int32 × AH)} {K117 : Int32 → Int32 → Option (Int32 × AH)} {x1 : Int32} {x2 : Int32} {h : AH} (hR : ∀ (x3 : Int32) (x4 : Int32) (x5 : Int32), Sim RX11 cX11_readers 6 (some .int) 7 (Option.map oI) (rec x3 x4 x5) 67 [(0, .ref 0), (1, .int x1), (2, .int x2), (3, .int x3), (4, .int x4), (5, .int x5)] [] h) (hK117 : ∀ (y3 : Int32) (y4 : Int32), Sim RX11 cX11_readers 6 (some .int) 7 (Option.map oI) (K117 y3 y4) 117 [(2, .int x2), (3, .int y3), (4, .int y4)] [] h) : ∀ (x3 : Int32) (x4 : Int32) (x5 : Int32), Sim RX11 cX11_readers 6 (some .int) 7 (Option.map oI) (fX11_readers_l67b rec K117 x1 x2 h x3 x4 x5) 67 [(0, .ref 0), (1, .int x1), (2, .int x2), (3, .int x3), (4, .int x4), (5, .int x5)] [] h := by
  intro x3 x4 x5
  unfold fX11_readers_l67b
  refine sim_iload 5 rfl dX11_readers_67 ?_
  refine sim_iload_n 1 rfl dX11_readers_69 ?_
  refine sim_icmp_gt (tgt := 117) dX11_readers_70 (by decide) (fun c11 => ?_) (fun c11 => ?_)
  · refine sim_sub [2, 3, 4] rfl ?_
    exact hK117 x3 x4
  · refine sim_iload 5 rfl dX11_readers_73 ?_
    refine sim_iload_n 1 rfl dX11_readers_75 ?_
    refine sim_iconst (v := -1) (by decide) dX11_readers_76 ?_
    refine sim_ixor dX11_readers_77 ?_
    refine sim_iand dX11_readers_78 ?_
    refine sim_if_ne (tgt := 111) dX11_readers_79 (by decide) (fun c12 => ?_) (fun c12 => ?_)
    · refine sim_iinc (v := x5 + 1) (L' := [(5, .int (x5 + 1)), (0, .ref 0), (1, .int x1), (2, .int x2), (3, .int x3), (4, .int x4)]) 5 rfl rfl rfl (by decide) dX11_readers_111 ?_
      refine sim_goto (tgt := 67) dX11_readers_114 (by decide) ?_
      refine sim_sub [1, 2, 3, 4, 5, 0] rfl ?_
      exact hR x3 x4 (x5 + 1)
    · refine sim_iload 5 rfl dX11_readers_82 ?_
      refine sim_cS (As := [.int x5]) (st := []) (r := (some (.int (fJ6_bitCount_0f7a4 x5 h)))) (h1 := h) (okJ6_bitCount_0f7a4 x5 h) (fun _ => rfl) mlX11_214 mtJ6_bitCount_0f7a4 rfl (Nat.le_of_ble_eq_true rfl) rfl (Nat.le_of_ble_eq_true rfl) dX11_readers_84 ?_
      refine sim_iload 4 rfl dX11_readers_87 ?_
      refine sim_icmp_ge (tgt := 111) dX11_readers_89 (by decide) (fun c13 => ?_) (fun c13 => ?_)
      · refine sim_iinc (v := x5 + 1) (L' := [(5, .int (x5 + 1)), (0, .ref 0), (1, .int x1), (2, .int x2), (3, .int x3), (4, .int x4)]) 5 rfl rfl rfl (by decide) dX11_readers_111 ?_
        refine sim_goto (tgt := 67) dX11_readers_114 (by decide) ?_
        refine sim_sub [1, 2, 3, 4, 5, 0] rfl ?_
        exact hR x3 x4 (x5 + 1)
      · refine sim_aload_n 0 rfl dX11_readers_92 ?_
        refine sim_iload 5 rfl dX11_readers_93 ?_
        refine sim_bind (fun b14 e15 => ?_)
        refine sim_cV (As := [.int x5]) (st := []) (r := (some (.int b14))) (h1 := h) (okX11_readAll x5 h b14 e15) (fun _ => rfl) mlX11_256 mtX11_readAll rfl rfl rfl rfl (Nat.le_of_ble_eq_true rfl) rfl (Nat.le_of_ble_eq_true rfl) dX11_readers_95 ?_
        refine sim_if_eq (tgt := 111) dX11_readers_98 (by decide) (fun c16 => ?_) (fun c16 => ?_)
        · refine sim_iinc (v := x5 + 1) (L' := [(5, .int (x5 + 1)), (0, .ref 0), (1, .int x1), (2, .int x2), (3, .int x3), (4, .int x4)]) 5 rfl rfl rfl (by decide) dX11_readers_111 ?_
          refine sim_goto (tgt := 67) dX11_readers_114 (by decide) ?_
          refine sim_sub [1, 2, 3, 4, 5, 0] rfl ?_
          exact hR x3 x4 (x5 + 1)
        · refine sim_iload 5 rfl dX11_readers_101 ?_
          refine sim_istore_n (L' := [(3, .int x5), (0, .ref 0), (1, .int x1), (2, .int x2), (4, .int x4), (5, .int x5)]) rfl (by decide) dX11_readers_103 ?_
          refine sim_iload 5 rfl dX11_readers_104 ?_
          refine sim_cS (As := [.int x5]) (st := []) (r := (some (.int (fJ6_bitCount_0f7a4 x5 h)))) (h1 := h) (okJ6_bitCount_0f7a4 x5 h) (fun _ => rfl) mlX11_214 mtJ6_bitCount_0f7a4 rfl (Nat.le_of_ble_eq_true rfl) rfl (Nat.le_of_ble_eq_true rfl) dX11_readers_106 ?_
          refine sim_nmI (fun v17 => ?_)
          refine sim_istore (L' := [(4, .int v17), (3, .int x5), (0, .ref 0), (1, .int x1), (2, .int x2), (5, .int x5)]) rfl (by decide) dX11_readers_109 ?_
          refine sim_iinc (v := x5 + 1) (L' := [(5, .int (x5 + 1)), (4, .int v17), (3, .int x5), (0, .ref 0), (1, .int x1), (2, .int x2)]) 5 rfl rfl rfl (by decide) dX11_readers_111 ?_
          refine sim_goto (tgt := 67) dX11_readers_114 (by decide) ?_
          refine sim_sub [3, 4, 5, 2, 1, 0] rfl ?_
          exact hR x5 v17 (x5 + 1)
theorem sX11_readers_l67 {K117 : Int32 → Int32 → Option (Int32 × AH)} {x1 : Int32} {x2 : Int32} {h : AH} (hK117 : ∀ (y3 : Int32) (y4 : Int32), Sim RX11 cX11_readers 6 (some .int) 7 (Option.map oI) (K117 y3 y4) 117 [(2, .int x2), (3, .int y3), (4, .int y4)] [] h) : ∀ (n : Nat) (x3 : Int32) (x4 : Int32) (x5 : Int32), Sim RX11 cX11_readers 6 (some .int) 7 (Option.map oI) (fX11_readers_l67 K117 x1 x2 h n x3 x4 x5) 67 [(0, .ref 0), (1, .int x1), (2, .int x2), (3, .int x3), (4, .int x4), (5, .int x5)] [] h := by
  intro n
  induction n with
  | zero => intro x3 x4 x5; exact sim_none
  | succ n ih => intro x3 x4 x5; exact sX11_readers_l67b ih hK117 x3 x4 x5
def fX11_readers (p1 : Int32) (p2 : Int32) (h : AH) : Option (Int32 × AH) :=
  if (fX11_areHearers p1 h) = 0 then
    some ((-1 : Int32), h)
  else
    if p2 < 0 then
      some ((-1 : Int32), h)
    else
      if (1 : Int32) < p2 then
        some ((-1 : Int32), h)
      else
        fX11_readers_l20 (fun (g10 : AH) =>
          fX11_readers_l67 (fun (y18 : Int32) (y19 : Int32) =>
            if y18 < 0 then
              some (y18, g10)
            else
              if p2 = 0 then
                some (y19, g10)
              else
                some (y18, g10)) p1 p2 g10 fuel0 (-2 : Int32) (11 : Int32) (0 : Int32)) p1 p2 fuel0 (0 : Int32) h
theorem sX11_readers (p1 : Int32) (p2 : Int32) (h : AH) : Sim RX11 cX11_readers 6 (some .int) 7 (Option.map oI) (fX11_readers p1 p2 h) 0 [(0, .ref 0), (1, .int p1), (2, .int p2)] [] h := by
  unfold fX11_readers
  refine sim_iload_n 1 rfl dX11_readers_0 ?_
  refine sim_cS (As := [.int p1]) (st := []) (r := (some (.int (fX11_areHearers p1 h)))) (h1 := h) (okX11_areHearers p1 h) (fun _ => rfl) mlX11_242 mtX11_areHearers rfl (Nat.le_of_ble_eq_true rfl) rfl (Nat.le_of_ble_eq_true rfl) dX11_readers_1 ?_
  refine sim_if_eq (tgt := 16) dX11_readers_4 (by decide) (fun c1 => ?_) (fun c1 => ?_)
  · refine sim_iconst (v := -1) (by decide) dX11_readers_16 ?_
    exact sim_iret rfl rfl dX11_readers_17
  · refine sim_iload_n 2 rfl dX11_readers_7 ?_
    refine sim_if_lt (tgt := 16) dX11_readers_8 (by decide) (fun c2 => ?_) (fun c2 => ?_)
    · refine sim_iconst (v := -1) (by decide) dX11_readers_16 ?_
      exact sim_iret rfl rfl dX11_readers_17
    · refine sim_iload_n 2 rfl dX11_readers_11 ?_
      refine sim_iconst (v := 1) (by decide) dX11_readers_12 ?_
      refine sim_icmp_le (tgt := 18) dX11_readers_13 (by decide) (fun c3 => ?_) (fun c3 => ?_)
      · refine sim_iconst (v := 0) (by decide) dX11_readers_18 ?_
        refine sim_istore_n (L' := [(3, .int (0 : Int32)), (0, .ref 0), (1, .int p1), (2, .int p2)]) rfl (by decide) dX11_readers_19 ?_
        refine sim_sub [1, 2, 3, 0] rfl ?_
        refine sX11_readers_l20 (fun g10 => ?_) _ (0 : Int32) h
        · refine sim_bipush (v := -2) (by decide) dX11_readers_57 ?_
          refine sim_istore_n (L' := [(3, .int (-2 : Int32)), (0, .ref 0), (1, .int p1), (2, .int p2)]) rfl (by decide) dX11_readers_59 ?_
          refine sim_bipush (v := 11) (by decide) dX11_readers_60 ?_
          refine sim_istore (L' := [(4, .int (11 : Int32)), (3, .int (-2 : Int32)), (0, .ref 0), (1, .int p1), (2, .int p2)]) rfl (by decide) dX11_readers_62 ?_
          refine sim_iconst (v := 0) (by decide) dX11_readers_64 ?_
          refine sim_istore (L' := [(5, .int (0 : Int32)), (4, .int (11 : Int32)), (3, .int (-2 : Int32)), (0, .ref 0), (1, .int p1), (2, .int p2)]) rfl (by decide) dX11_readers_65 ?_
          refine sim_sub [3, 4, 5, 2, 1, 0] rfl ?_
          refine sX11_readers_l67 (fun y18 y19 => ?_) _ (-2 : Int32) (11 : Int32) (0 : Int32)
          · refine sim_iload_n 1 rfl dX11_readers_117 ?_
            refine sim_if_lt (tgt := 130) dX11_readers_118 (by decide) (fun c20 => ?_) (fun c20 => ?_)
            · refine sim_iload_n 1 rfl dX11_readers_130 ?_
              exact sim_iret rfl rfl dX11_readers_131
            · refine sim_iload_n 0 rfl dX11_readers_121 ?_
              refine sim_if_ne (tgt := 130) dX11_readers_122 (by decide) (fun c21 => ?_) (fun c21 => ?_)
              · refine sim_iload_n 1 rfl dX11_readers_130 ?_
                exact sim_iret rfl rfl dX11_readers_131
              · refine sim_iload 2 rfl dX11_readers_125 ?_
                refine sim_goto (tgt := 131) dX11_readers_127 (by decide) ?_
                exact sim_iret rfl rfl dX11_readers_131
      · refine sim_iconst (v := -1) (by decide) dX11_readers_16 ?_
        exact sim_iret rfl rfl dX11_readers_17
theorem okX11_readers (p1 : Int32) (p2 : Int32) (h : AH) (b : Int32 × AH) (e : fX11_readers p1 p2 h = some b) : Ok yX11_readers cX11_readers 6 (some .int) 7 [.ref 0, .int p1, .int p2] h (some (.int b.1), b.2) := ok_of (sX11_readers p1 p2 h) (by rw [e]; rfl) (by decide +kernel) (Nat.le_of_ble_eq_true rfl)
end
