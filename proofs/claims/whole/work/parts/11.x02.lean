noncomputable section
def fX5_readSum_l29b (rf : Int32 → AH → Option AH) (rec : Int32 → AH → Option AH) (K101 : AH → Option AH) (x1 : Int32) (x2 : Int32) (x3 : Int32) (x4 : Int32) (h : AH) : Option AH :=
  if x4 < (200 : Int32) then
    if (fX10_isSound h) = 0 then
      K101 h
    else
      if (fX10_among 3 h) < 0 then
        K101 h
      else
        letT ((5 : Int32) + (fX10_among 1 h)) (fun v8 =>
        letT (fX10_step h) (fun g9 =>
        (rf x1 g9).bind (fun b10 =>
        letT (fX4_emit v8 (0 : Int32) b10) (fun b12 =>
        rec (x4 + 1) b12.2))))
  else
    K101 h
def fX5_readSum_l29 (rf : Int32 → AH → Option AH) (K101 : AH → Option AH) (x1 : Int32) (x2 : Int32) (x3 : Int32) : Nat → Int32 → AH → Option AH
  | 0, _, _ => none
  | n + 1, x4, h => fX5_readSum_l29b rf (fX5_readSum_l29 rf K101 x1 x2 x3 n) K101 x1 x2 x3 x4 h
theorem sX5_readSum_l29b (d : Nat) (rf : Int32 → AH → Option AH) (hrf : ∀ (p : Int32) (h b : AH), rf p h = some b → Ok yX5_readFactor cX5_readFactor 2 none (9 + 2 * d + 10) [.ref 34, .int p] h (none, b)) {rec : Int32 → AH → Option AH} {K101 : AH → Option AH} {x1 : Int32} {x2 : Int32} {x3 : Int32} (hR : ∀ (x4 : Int32) (h : AH), Sim RX5 cX5_readSum 6 none (10 + 2 * d + 10) (Option.map oV) (rec x4 h) 29 [(0, .ref 34), (1, .int x1), (2, .int x2), (3, .int x3), (4, .int x4)] [] h) (hK101 : ∀ (g : AH), Sim RX5 cX5_readSum 6 none (10 + 2 * d + 10) (Option.map oV) (K101 g) 101 [(0, .ref 34), (1, .int x1), (2, .int x2), (3, .int x3)] [] g) : ∀ (x4 : Int32) (h : AH), Sim RX5 cX5_readSum 6 none (10 + 2 * d + 10) (Option.map oV) (fX5_readSum_l29b rf rec K101 x1 x2 x3 x4 h) 29 [(0, .ref 34), (1, .int x1), (2, .int x2), (3, .int x3), (4, .int x4)] [] h := by
  intro x4 h
  unfold fX5_readSum_l29b
  refine sim_iload 4 rfl dX5_readSum_29 ?_
  refine sim_sipush (v := 200) (by decide) dX5_readSum_31 ?_
  refine sim_icmp_ge (tgt := 101) dX5_readSum_34 (by decide) (fun c5 => ?_) (fun c5 => ?_)
  · refine sim_sub [0, 1, 2, 3] rfl ?_
    exact hK101 h
  · refine sim_aload_n 0 rfl dX5_readSum_37 ?_
    refine sim_getR flX5_22 rfl rfl dX5_readSum_38 ?_
    refine sim_cV (As := []) (st := []) (r := (some (.int (fX10_isSound h)))) (h1 := h) (okX10_isSound h) (fun _ => rfl) mlX5_51 mtX10_isSound rfl rfl rfl rfl (by omega) rfl (Nat.le_of_ble_eq_true rfl) dX5_readSum_41 ?_
    refine sim_if_eq (tgt := 101) dX5_readSum_44 (by decide) (fun c6 => ?_) (fun c6 => ?_)
    · refine sim_sub [0, 1, 2, 3] rfl ?_
      exact hK101 h
    · refine sim_aload_n 0 rfl dX5_readSum_47 ?_
      refine sim_getR flX5_22 rfl rfl dX5_readSum_48 ?_
      refine sim_ldcS 3 (by decide) rfl rfl dX5_readSum_51 ?_
      refine sim_cV (As := [.ref 203]) (st := []) (r := (some (.int (fX10_among 3 h)))) (h1 := h) (okX10_among 3 (by decide) h) (fun _ => rfl) mlX5_69 mtX10_among rfl rfl rfl rfl (by omega) rfl (Nat.le_of_ble_eq_true rfl) dX5_readSum_53 ?_
      refine sim_if_lt (tgt := 101) dX5_readSum_56 (by decide) (fun c7 => ?_) (fun c7 => ?_)
      · refine sim_sub [0, 1, 2, 3] rfl ?_
        exact hK101 h
      · refine sim_iconst (v := 5) (by decide) dX5_readSum_59 ?_
        refine sim_aload_n 0 rfl dX5_readSum_60 ?_
        refine sim_getR flX5_22 rfl rfl dX5_readSum_61 ?_
        refine sim_ldcS 1 (by decide) rfl rfl dX5_readSum_64 ?_
        refine sim_cV (As := [.ref 201]) (st := [.int (5 : Int32)]) (r := (some (.int (fX10_among 1 h)))) (h1 := h) (okX10_among 1 (by decide) h) (fun _ => rfl) mlX5_69 mtX10_among rfl rfl rfl rfl (by omega) rfl (Nat.le_of_ble_eq_true rfl) dX5_readSum_66 ?_
        refine sim_iadd dX5_readSum_69 ?_
        refine sim_nmI (fun v8 => ?_)
        refine sim_istore (L' := [(5, .int v8), (0, .ref 34), (1, .int x1), (2, .int x2), (3, .int x3), (4, .int x4)]) rfl (by decide) dX5_readSum_70 ?_
        refine sim_aload_n 1 rfl dX5_readSum_72 ?_
        refine sim_getR flX5_22 rfl rfl dX5_readSum_73 ?_
        refine sim_cV (As := []) (st := []) (r := none) (h1 := (fX10_step h)) (okX10_step h) (fun _ => rfl) mlX5_86 mtX10_step rfl rfl rfl rfl (by omega) rfl (Nat.le_of_ble_eq_true rfl) dX5_readSum_76 ?_
        refine sim_nmH (fun g9 => ?_)
        refine sim_aload_n 1 rfl dX5_readSum_79 ?_
        refine sim_iload_n 2 rfl dX5_readSum_80 ?_
        refine sim_bind (fun b10 e11 => ?_)
        refine sim_cV (As := [.int x1]) (st := []) (r := none) (h1 := b10) (hrf x1 g9 b10 e11) (fun _ => rfl) mlX5_110 mtX5_readFactor rfl rfl rfl rfl (by omega) rfl (Nat.le_of_ble_eq_true rfl) dX5_readSum_81 ?_
        refine sim_aload_n 1 rfl dX5_readSum_84 ?_
        refine sim_getR flX5_12 rfl rfl dX5_readSum_85 ?_
        refine sim_iload 0 rfl dX5_readSum_88 ?_
        refine sim_iconst (v := 0) (by decide) dX5_readSum_90 ?_
        refine sim_cV (As := [.int v8, .int (0 : Int32)]) (st := []) (r := (some (.int ((fX4_emit v8 (0 : Int32) b10).1)))) (h1 := (fX4_emit v8 (0 : Int32) b10).2) (okX4_emit v8 (0 : Int32) b10) (fun _ => rfl) mlX5_98 mtX4_emit rfl rfl rfl rfl (by omega) rfl (Nat.le_of_ble_eq_true rfl) dX5_readSum_91 ?_
        refine sim_nmP (fun b12 => ?_)
        refine sim_pop dX5_readSum_94 rfl ?_
        refine sim_iinc (v := x4 + 1) (L' := [(4, .int (x4 + 1)), (5, .int v8), (0, .ref 34), (1, .int x1), (2, .int x2), (3, .int x3)]) 5 rfl rfl rfl (by decide) dX5_readSum_95 ?_
        refine sim_goto (tgt := 29) dX5_readSum_98 (by decide) ?_
        refine sim_sub [2, 3, 4, 5, 0] rfl ?_
        exact hR (x4 + 1) b12.2
theorem sX5_readSum_l29 (d : Nat) (rf : Int32 → AH → Option AH) (hrf : ∀ (p : Int32) (h b : AH), rf p h = some b → Ok yX5_readFactor cX5_readFactor 2 none (9 + 2 * d + 10) [.ref 34, .int p] h (none, b)) {K101 : AH → Option AH} {x1 : Int32} {x2 : Int32} {x3 : Int32} (hK101 : ∀ (g : AH), Sim RX5 cX5_readSum 6 none (10 + 2 * d + 10) (Option.map oV) (K101 g) 101 [(0, .ref 34), (1, .int x1), (2, .int x2), (3, .int x3)] [] g) : ∀ (n : Nat) (x4 : Int32) (h : AH), Sim RX5 cX5_readSum 6 none (10 + 2 * d + 10) (Option.map oV) (fX5_readSum_l29 rf K101 x1 x2 x3 n x4 h) 29 [(0, .ref 34), (1, .int x1), (2, .int x2), (3, .int x3), (4, .int x4)] [] h := by
  intro n
  induction n with
  | zero => intro x4 h; exact sim_none
  | succ n ih => intro x4 h; exact sX5_readSum_l29b d rf hrf ih hK101 x4 h
def fX5_readSum_l4b (rf : Int32 → AH → Option AH) (rec : Int32 → Int32 → AH → Option AH) (x1 : Int32) (x2 : Int32) (x3 : Int32) (h : AH) : Option AH :=
  if x3 < (200 : Int32) then
    if (fX10_isSound h) = 0 then
      some h
    else
      (rf x1 h).bind (fun b3 =>
      fX5_readSum_l29 rf (fun (g13 : AH) =>
        letT (fun (g14 : AH) =>
          if (fX10_among 4 g14) < 0 then
            some g14
          else
            letT ((5 : Int32) + (fX10_among 1 g14)) (fun v17 =>
            letT (fX10_step g14) (fun g18 =>
            rec v17 (x3 + 1) g18))) (fun J15 =>
        if x2 < 0 then
          J15 g13
        else
          letT (fX4_emit x2 (0 : Int32) g13) (fun b20 =>
          J15 b20.2))) x1 x2 x3 fuel0 (0 : Int32) b3)
  else
    some h
def fX5_readSum_l4 (rf : Int32 → AH → Option AH) (x1 : Int32) : Nat → Int32 → Int32 → AH → Option AH
  | 0, _, _, _ => none
  | n + 1, x2, x3, h => fX5_readSum_l4b rf (fX5_readSum_l4 rf x1 n) x1 x2 x3 h
theorem sX5_readSum_l4b (d : Nat) (rf : Int32 → AH → Option AH) (hrf : ∀ (p : Int32) (h b : AH), rf p h = some b → Ok yX5_readFactor cX5_readFactor 2 none (9 + 2 * d + 10) [.ref 34, .int p] h (none, b)) {rec : Int32 → Int32 → AH → Option AH} {x1 : Int32} (hR : ∀ (x2 : Int32) (x3 : Int32) (h : AH), Sim RX5 cX5_readSum 6 none (10 + 2 * d + 10) (Option.map oV) (rec x2 x3 h) 4 [(0, .ref 34), (1, .int x1), (2, .int x2), (3, .int x3)] [] h) : ∀ (x2 : Int32) (x3 : Int32) (h : AH), Sim RX5 cX5_readSum 6 none (10 + 2 * d + 10) (Option.map oV) (fX5_readSum_l4b rf rec x1 x2 x3 h) 4 [(0, .ref 34), (1, .int x1), (2, .int x2), (3, .int x3)] [] h := by
  intro x2 x3 h
  unfold fX5_readSum_l4b
  refine sim_iload_n 3 rfl dX5_readSum_4 ?_
  refine sim_sipush (v := 200) (by decide) dX5_readSum_5 ?_
  refine sim_icmp_ge (tgt := 153) dX5_readSum_8 (by decide) (fun c1 => ?_) (fun c1 => ?_)
  · exact sim_vret rfl rfl dX5_readSum_153
  · refine sim_aload_n 0 rfl dX5_readSum_11 ?_
    refine sim_getR flX5_22 rfl rfl dX5_readSum_12 ?_
    refine sim_cV (As := []) (st := []) (r := (some (.int (fX10_isSound h)))) (h1 := h) (okX10_isSound h) (fun _ => rfl) mlX5_51 mtX10_isSound rfl rfl rfl rfl (by omega) rfl (Nat.le_of_ble_eq_true rfl) dX5_readSum_15 ?_
    refine sim_if_eq (tgt := 153) dX5_readSum_18 (by decide) (fun c2 => ?_) (fun c2 => ?_)
    · exact sim_vret rfl rfl dX5_readSum_153
    · refine sim_aload_n 0 rfl dX5_readSum_21 ?_
      refine sim_iload_n 1 rfl dX5_readSum_22 ?_
      refine sim_bind (fun b3 e4 => ?_)
      refine sim_cV (As := [.int x1]) (st := []) (r := none) (h1 := b3) (hrf x1 h b3 e4) (fun _ => rfl) mlX5_110 mtX5_readFactor rfl rfl rfl rfl (by omega) rfl (Nat.le_of_ble_eq_true rfl) dX5_readSum_23 ?_
      refine sim_iconst (v := 0) (by decide) dX5_readSum_26 ?_
      refine sim_istore (L' := [(4, .int (0 : Int32)), (0, .ref 34), (1, .int x1), (2, .int x2), (3, .int x3)]) rfl (by decide) dX5_readSum_27 ?_
      refine sim_sub [1, 2, 3, 4, 0] rfl ?_
      refine sX5_readSum_l29 d rf hrf (fun g13 => ?_) _ (0 : Int32) b3
      · refine sim_iload_n 2 rfl dX5_readSum_101 ?_
        refine sim_letJ (fun J15 => ∀ (g14 : AH), Sim RX5 cX5_readSum 6 none (10 + 2 * d + 10) (Option.map oV) (J15 g14) 115 [(0, .ref 34), (1, .int x1), (3, .int x3)] [] g14) (fun g14 => ?_) (fun J15 hJ15 => ?_)
        · refine sim_aload_n 0 rfl dX5_readSum_115 ?_
          refine sim_getR flX5_22 rfl rfl dX5_readSum_116 ?_
          refine sim_ldcS 4 (by decide) rfl rfl dX5_readSum_119 ?_
          refine sim_cV (As := [.ref 204]) (st := []) (r := (some (.int (fX10_among 4 g14)))) (h1 := g14) (okX10_among 4 (by decide) g14) (fun _ => rfl) mlX5_69 mtX10_among rfl rfl rfl rfl (by omega) rfl (Nat.le_of_ble_eq_true rfl) dX5_readSum_121 ?_
          refine sim_if_ge (tgt := 128) dX5_readSum_124 (by decide) (fun c16 => ?_) (fun c16 => ?_)
          · refine sim_iconst (v := 5) (by decide) dX5_readSum_128 ?_
            refine sim_aload_n 0 rfl dX5_readSum_129 ?_
            refine sim_getR flX5_22 rfl rfl dX5_readSum_130 ?_
            refine sim_ldcS 1 (by decide) rfl rfl dX5_readSum_133 ?_
            refine sim_cV (As := [.ref 201]) (st := [.int (5 : Int32)]) (r := (some (.int (fX10_among 1 g14)))) (h1 := g14) (okX10_among 1 (by decide) g14) (fun _ => rfl) mlX5_69 mtX10_among rfl rfl rfl rfl (by omega) rfl (Nat.le_of_ble_eq_true rfl) dX5_readSum_135 ?_
            refine sim_iadd dX5_readSum_138 ?_
            refine sim_nmI (fun v17 => ?_)
            refine sim_istore_n (L' := [(2, .int v17), (0, .ref 34), (1, .int x1), (3, .int x3)]) rfl (by decide) dX5_readSum_139 ?_
            refine sim_aload_n 1 rfl dX5_readSum_140 ?_
            refine sim_getR flX5_22 rfl rfl dX5_readSum_141 ?_
            refine sim_cV (As := []) (st := []) (r := none) (h1 := (fX10_step g14)) (okX10_step g14) (fun _ => rfl) mlX5_86 mtX10_step rfl rfl rfl rfl (by omega) rfl (Nat.le_of_ble_eq_true rfl) dX5_readSum_144 ?_
            refine sim_nmH (fun g18 => ?_)
            refine sim_iinc (v := x3 + 1) (L' := [(3, .int (x3 + 1)), (2, .int v17), (0, .ref 34), (1, .int x1)]) 3 rfl rfl rfl (by decide) dX5_readSum_147 ?_
            refine sim_goto (tgt := 4) dX5_readSum_150 (by decide) ?_
            refine sim_sub [2, 3, 1, 0] rfl ?_
            exact hR v17 (x3 + 1) g18
          · exact sim_vret rfl rfl dX5_readSum_127
        refine sim_if_lt (tgt := 115) dX5_readSum_102 (by decide) (fun c19 => ?_) (fun c19 => ?_)
        · refine sim_sub [0, 1, 3] rfl ?_
          exact hJ15 g13
        · refine sim_aload_n 0 rfl dX5_readSum_105 ?_
          refine sim_getR flX5_12 rfl rfl dX5_readSum_106 ?_
          refine sim_iload_n 2 rfl dX5_readSum_109 ?_
          refine sim_iconst (v := 0) (by decide) dX5_readSum_110 ?_
          refine sim_cV (As := [.int x2, .int (0 : Int32)]) (st := []) (r := (some (.int ((fX4_emit x2 (0 : Int32) g13).1)))) (h1 := (fX4_emit x2 (0 : Int32) g13).2) (okX4_emit x2 (0 : Int32) g13) (fun _ => rfl) mlX5_98 mtX4_emit rfl rfl rfl rfl (by omega) rfl (Nat.le_of_ble_eq_true rfl) dX5_readSum_111 ?_
          refine sim_nmP (fun b20 => ?_)
          refine sim_pop dX5_readSum_114 rfl ?_
          refine sim_sub [0, 1, 3] rfl ?_
          exact hJ15 b20.2
theorem sX5_readSum_l4 (d : Nat) (rf : Int32 → AH → Option AH) (hrf : ∀ (p : Int32) (h b : AH), rf p h = some b → Ok yX5_readFactor cX5_readFactor 2 none (9 + 2 * d + 10) [.ref 34, .int p] h (none, b)) {x1 : Int32} : ∀ (n : Nat) (x2 : Int32) (x3 : Int32) (h : AH), Sim RX5 cX5_readSum 6 none (10 + 2 * d + 10) (Option.map oV) (fX5_readSum_l4 rf x1 n x2 x3 h) 4 [(0, .ref 34), (1, .int x1), (2, .int x2), (3, .int x3)] [] h := by
  intro n
  induction n with
  | zero => intro x2 x3 h; exact sim_none
  | succ n ih => intro x2 x3 h; exact sX5_readSum_l4b d rf hrf ih x2 x3 h
def fX5_readSum (rf : Int32 → AH → Option AH) (p1 : Int32) (h : AH) : Option AH :=
  fX5_readSum_l4 rf p1 fuel0 (-1 : Int32) (0 : Int32) h
theorem sX5_readSum (d : Nat) (rf : Int32 → AH → Option AH) (hrf : ∀ (p : Int32) (h b : AH), rf p h = some b → Ok yX5_readFactor cX5_readFactor 2 none (9 + 2 * d + 10) [.ref 34, .int p] h (none, b)) (p1 : Int32) (h : AH) : Sim RX5 cX5_readSum 6 none (10 + 2 * d + 10) (Option.map oV) (fX5_readSum rf p1 h) 0 [(0, .ref 34), (1, .int p1)] [] h := by
  unfold fX5_readSum
  refine sim_iconst (v := -1) (by decide) dX5_readSum_0 ?_
  refine sim_istore_n (L' := [(2, .int (-1 : Int32)), (0, .ref 34), (1, .int p1)]) rfl (by decide) dX5_readSum_1 ?_
  refine sim_iconst (v := 0) (by decide) dX5_readSum_2 ?_
  refine sim_istore_n (L' := [(3, .int (0 : Int32)), (2, .int (-1 : Int32)), (0, .ref 34), (1, .int p1)]) rfl (by decide) dX5_readSum_3 ?_
  refine sim_sub [2, 3, 1, 0] rfl ?_
  refine sX5_readSum_l4 d rf hrf _ (-1 : Int32) (0 : Int32) h
theorem okX5_readSum (d : Nat) (rf : Int32 → AH → Option AH) (hrf : ∀ (p : Int32) (h b : AH), rf p h = some b → Ok yX5_readFactor cX5_readFactor 2 none (9 + 2 * d + 10) [.ref 34, .int p] h (none, b)) (p1 : Int32) (h : AH) (b : AH) (e : fX5_readSum rf p1 h = some b) : Ok yX5_readSum cX5_readSum 6 none (10 + 2 * d + 10) [.ref 34, .int p1] h (none, b) := ok_of (sX5_readSum d rf hrf p1 h) (by rw [e]; rfl) (by decide +kernel) (Nat.le_of_ble_eq_true rfl)
def fX5_readSumD : Nat → Int32 → AH → Option AH
  | 0, _, _ => none
  | d + 1, p, h => fX5_readSum (fX5_readFactor (fX5_readSumD d)) p h
theorem okX5_readSumD : ∀ (d : Nat) (p : Int32) (h b : AH), fX5_readSumD d p h = some b → Ok yX5_readSum cX5_readSum 6 none (8 + 2 * d + 10) [.ref 34, .int p] h (none, b) := by
  intro d
  induction d with
  | zero => intro p h b e; cases e
  | succ d ih =>
    intro p h b e
    have := okX5_readSum d (fX5_readFactor (fX5_readSumD d)) (fun p h b e => okX5_readFactor d (fX5_readSumD d) ih p h b e) p h b e
    have e2 : 8 + 2 * (d + 1) + 10 = 10 + 2 * d + 10 := by omega
    rw [e2]
    exact this
def fX5_readPiece (rp : Int32 → AH → Option AH) (rc : Int32 → AH → Option AH) (p1 : Int32) (h : AH) : Option AH :=
  if (h.1 1 3) = (33 : Int32) then
    (fX5_mayOpen p1 h).bind (fun b21 =>
    if b21.1 = 0 then
      letT (fX4_emit (2 : Int32) (0 : Int32) b21.2) (fun b24 =>
      some b24.2)
    else
      (rp (p1 + (1 : Int32)) b21.2).bind (fun b25 =>
      letT (fX4_emit (2 : Int32) (0 : Int32) b25) (fun b27 =>
      some b27.2)))
  else
    if (h.1 1 3) = (40 : Int32) then
      (fX5_mayOpen p1 h).bind (fun b14 =>
      if b14.1 = 0 then
        letT (fX10_expect (41 : Int32) b14.2) (fun g17 =>
        some g17)
      else
        (rc (p1 + (1 : Int32)) b14.2).bind (fun b18 =>
        letT (fX10_expect (41 : Int32) b18) (fun g20 =>
        some g20)))
    else
      (fX5_readSumD 8 p1 h).bind (fun b3 =>
      letT ((5 : Int32) + (fX10_among 1 b3)) (fun v5 =>
      letT (fun (g6 : AH) =>
        letT (fX10_step g6) (fun g8 =>
        (fX5_readSumD 8 p1 g8).bind (fun b9 =>
        letT (fX4_emit v5 (0 : Int32) b9) (fun b11 =>
        some b11.2)))) (fun J7 =>
      if (fX10_among 2 b3) < 0 then
        letT (fX10_failHere b3) (fun g13 =>
        J7 g13)
      else
        J7 b3)))
theorem sX5_readPiece (d : Nat) (rp : Int32 → AH → Option AH) (rc : Int32 → AH → Option AH) (hrp : ∀ (p : Int32) (h b : AH), rp p h = some b → Ok yX5_readPiece cX5_readPiece 3 none (40 + 2 * d) [.ref 34, .int p] h (none, b)) (hrc : ∀ (p : Int32) (h b : AH), rc p h = some b → Ok yX5_readChoice cX5_readChoice 7 none (41 + 2 * d) [.ref 34, .int p] h (none, b)) (p1 : Int32) (h : AH) : Sim RX5 cX5_readPiece 3 none (42 + 2 * d) (Option.map oV) (fX5_readPiece rp rc p1 h) 0 [(0, .ref 34), (1, .int p1)] [] h := by
  unfold fX5_readPiece
  refine sim_aload_n 0 rfl dX5_readPiece_0 ?_
  refine sim_getR flX5_22 rfl rfl dX5_readPiece_1 ?_
  refine sim_getI flX5_83 rfl rfl dX5_readPiece_4 ?_
  refine sim_bipush (v := 33) (by decide) dX5_readPiece_7 ?_
  refine sim_icmp_ne (tgt := 40) dX5_readPiece_9 (by decide) (fun c1 => ?_) (fun c1 => ?_)
  · refine sim_aload_n 0 rfl dX5_readPiece_40 ?_
    refine sim_getR flX5_22 rfl rfl dX5_readPiece_41 ?_
    refine sim_getI flX5_83 rfl rfl dX5_readPiece_44 ?_
    refine sim_bipush (v := 40) (by decide) dX5_readPiece_47 ?_
    refine sim_icmp_ne (tgt := 79) dX5_readPiece_49 (by decide) (fun c2 => ?_) (fun c2 => ?_)
    · refine sim_aload_n 0 rfl dX5_readPiece_79 ?_
      refine sim_iload_n 1 rfl dX5_readPiece_80 ?_
      refine sim_bind (fun b3 e4 => ?_)
      refine sim_cV (As := [.int p1]) (st := []) (r := none) (h1 := b3) (okX5_readSumD 8 p1 h b3 e4) (fun _ => rfl) mlX5_38 mtX5_readSum rfl rfl rfl rfl (by omega) rfl (Nat.le_of_ble_eq_true rfl) dX5_readPiece_81 ?_
      refine sim_iconst (v := 5) (by decide) dX5_readPiece_84 ?_
      refine sim_aload_n 0 rfl dX5_readPiece_85 ?_
      refine sim_getR flX5_22 rfl rfl dX5_readPiece_86 ?_
      refine sim_ldcS 1 (by decide) rfl rfl dX5_readPiece_89 ?_
      refine sim_cV (As := [.ref 201]) (st := [.int (5 : Int32)]) (r := (some (.int (fX10_among 1 b3)))) (h1 := b3) (okX10_among 1 (by decide) b3) (fun _ => rfl) mlX5_69 mtX10_among rfl rfl rfl rfl (by omega) rfl (Nat.le_of_ble_eq_true rfl) dX5_readPiece_91 ?_
      refine sim_iadd dX5_readPiece_94 ?_
      refine sim_nmI (fun v5 => ?_)
      refine sim_istore_n (L' := [(2, .int v5), (0, .ref 34), (1, .int p1)]) rfl (by decide) dX5_readPiece_95 ?_
      refine sim_aload_n 1 rfl dX5_readPiece_96 ?_
      refine sim_getR flX5_22 rfl rfl dX5_readPiece_97 ?_
      refine sim_ldcS 2 (by decide) rfl rfl dX5_readPiece_100 ?_
      refine sim_cV (As := [.ref 202]) (st := []) (r := (some (.int (fX10_among 2 b3)))) (h1 := b3) (okX10_among 2 (by decide) b3) (fun _ => rfl) mlX5_69 mtX10_among rfl rfl rfl rfl (by omega) rfl (Nat.le_of_ble_eq_true rfl) dX5_readPiece_102 ?_
      refine sim_letJ (fun J7 => ∀ (g6 : AH), Sim RX5 cX5_readPiece 3 none (42 + 2 * d) (Option.map oV) (J7 g6) 115 [(0, .ref 34), (1, .int p1), (2, .int v5)] [] g6) (fun g6 => ?_) (fun J7 hJ7 => ?_)
      · refine sim_aload_n 0 rfl dX5_readPiece_115 ?_
        refine sim_getR flX5_22 rfl rfl dX5_readPiece_116 ?_
        refine sim_cV (As := []) (st := []) (r := none) (h1 := (fX10_step g6)) (okX10_step g6) (fun _ => rfl) mlX5_86 mtX10_step rfl rfl rfl rfl (by omega) rfl (Nat.le_of_ble_eq_true rfl) dX5_readPiece_119 ?_
        refine sim_nmH (fun g8 => ?_)
        refine sim_aload_n 0 rfl dX5_readPiece_122 ?_
        refine sim_iload_n 1 rfl dX5_readPiece_123 ?_
        refine sim_bind (fun b9 e10 => ?_)
        refine sim_cV (As := [.int p1]) (st := []) (r := none) (h1 := b9) (okX5_readSumD 8 p1 g8 b9 e10) (fun _ => rfl) mlX5_38 mtX5_readSum rfl rfl rfl rfl (by omega) rfl (Nat.le_of_ble_eq_true rfl) dX5_readPiece_124 ?_
        refine sim_aload_n 0 rfl dX5_readPiece_127 ?_
        refine sim_getR flX5_12 rfl rfl dX5_readPiece_128 ?_
        refine sim_iload_n 2 rfl dX5_readPiece_131 ?_
        refine sim_iconst (v := 0) (by decide) dX5_readPiece_132 ?_
        refine sim_cV (As := [.int v5, .int (0 : Int32)]) (st := []) (r := (some (.int ((fX4_emit v5 (0 : Int32) b9).1)))) (h1 := (fX4_emit v5 (0 : Int32) b9).2) (okX4_emit v5 (0 : Int32) b9) (fun _ => rfl) mlX5_98 mtX4_emit rfl rfl rfl rfl (by omega) rfl (Nat.le_of_ble_eq_true rfl) dX5_readPiece_133 ?_
        refine sim_nmP (fun b11 => ?_)
        refine sim_pop dX5_readPiece_136 rfl ?_
        exact sim_vret rfl rfl dX5_readPiece_137
      refine sim_if_ge (tgt := 115) dX5_readPiece_105 (by decide) (fun c12 => ?_) (fun c12 => ?_)
      · refine sim_sub [1, 2, 0] rfl ?_
        exact hJ7 b3
      · refine sim_aload_n 1 rfl dX5_readPiece_108 ?_
        refine sim_getR flX5_22 rfl rfl dX5_readPiece_109 ?_
        refine sim_cV (As := []) (st := []) (r := none) (h1 := (fX10_failHere b3)) (okX10_failHere b3) (fun _ => rfl) mlX5_73 mtX10_failHere rfl rfl rfl rfl (by omega) rfl (Nat.le_of_ble_eq_true rfl) dX5_readPiece_112 ?_
        refine sim_nmH (fun g13 => ?_)
        refine sim_sub [1, 2, 0] rfl ?_
        exact hJ7 g13
    · refine sim_aload_n 0 rfl dX5_readPiece_52 ?_
      refine sim_iload_n 1 rfl dX5_readPiece_53 ?_
      refine sim_bind (fun b14 e15 => ?_)
      refine sim_cV (As := [.int p1]) (st := []) (r := (some (.int b14.1))) (h1 := b14.2) (okX5_mayOpen p1 h b14 e15) (fun _ => rfl) mlX5_102 mtX5_mayOpen rfl rfl rfl rfl (by omega) rfl (Nat.le_of_ble_eq_true rfl) dX5_readPiece_54 ?_
      refine sim_if_eq (tgt := 67) dX5_readPiece_57 (by decide) (fun c16 => ?_) (fun c16 => ?_)
      · refine sim_aload_n 0 rfl dX5_readPiece_67 ?_
        refine sim_getR flX5_22 rfl rfl dX5_readPiece_68 ?_
        refine sim_bipush (v := 41) (by decide) dX5_readPiece_71 ?_
        refine sim_cV (As := [.int (41 : Int32)]) (st := []) (r := none) (h1 := (fX10_expect (41 : Int32) b14.2)) (okX10_expect (41 : Int32) b14.2) (fun _ => rfl) mlX5_44 mtX10_expect rfl rfl rfl rfl (by omega) rfl (Nat.le_of_ble_eq_true rfl) dX5_readPiece_73 ?_
        refine sim_nmH (fun g17 => ?_)
        refine sim_goto (tgt := 137) dX5_readPiece_76 (by decide) ?_
        exact sim_vret rfl rfl dX5_readPiece_137
      · refine sim_aload_n 0 rfl dX5_readPiece_60 ?_
        refine sim_iload_n 1 rfl dX5_readPiece_61 ?_
        refine sim_iconst (v := 1) (by decide) dX5_readPiece_62 ?_
        refine sim_iadd dX5_readPiece_63 ?_
        refine sim_bind (fun b18 e19 => ?_)
        refine sim_cV (As := [.int (p1 + (1 : Int32))]) (st := []) (r := none) (h1 := b18) (hrc (p1 + (1 : Int32)) b14.2 b18 e19) (fun _ => rfl) mlX5_48 mtX5_readChoice rfl rfl rfl rfl (by omega) rfl (Nat.le_of_ble_eq_true rfl) dX5_readPiece_64 ?_
        refine sim_aload_n 0 rfl dX5_readPiece_67 ?_
        refine sim_getR flX5_22 rfl rfl dX5_readPiece_68 ?_
        refine sim_bipush (v := 41) (by decide) dX5_readPiece_71 ?_
        refine sim_cV (As := [.int (41 : Int32)]) (st := []) (r := none) (h1 := (fX10_expect (41 : Int32) b18)) (okX10_expect (41 : Int32) b18) (fun _ => rfl) mlX5_44 mtX10_expect rfl rfl rfl rfl (by omega) rfl (Nat.le_of_ble_eq_true rfl) dX5_readPiece_73 ?_
        refine sim_nmH (fun g20 => ?_)
        refine sim_goto (tgt := 137) dX5_readPiece_76 (by decide) ?_
        exact sim_vret rfl rfl dX5_readPiece_137
  · refine sim_aload_n 0 rfl dX5_readPiece_12 ?_
    refine sim_iload_n 1 rfl dX5_readPiece_13 ?_
    refine sim_bind (fun b21 e22 => ?_)
    refine sim_cV (As := [.int p1]) (st := []) (r := (some (.int b21.1))) (h1 := b21.2) (okX5_mayOpen p1 h b21 e22) (fun _ => rfl) mlX5_102 mtX5_mayOpen rfl rfl rfl rfl (by omega) rfl (Nat.le_of_ble_eq_true rfl) dX5_readPiece_14 ?_
    refine sim_if_eq (tgt := 27) dX5_readPiece_17 (by decide) (fun c23 => ?_) (fun c23 => ?_)
    · refine sim_aload_n 0 rfl dX5_readPiece_27 ?_
      refine sim_getR flX5_12 rfl rfl dX5_readPiece_28 ?_
      refine sim_iconst (v := 2) (by decide) dX5_readPiece_31 ?_
      refine sim_iconst (v := 0) (by decide) dX5_readPiece_32 ?_
      refine sim_cV (As := [.int (2 : Int32), .int (0 : Int32)]) (st := []) (r := (some (.int ((fX4_emit (2 : Int32) (0 : Int32) b21.2).1)))) (h1 := (fX4_emit (2 : Int32) (0 : Int32) b21.2).2) (okX4_emit (2 : Int32) (0 : Int32) b21.2) (fun _ => rfl) mlX5_98 mtX4_emit rfl rfl rfl rfl (by omega) rfl (Nat.le_of_ble_eq_true rfl) dX5_readPiece_33 ?_
      refine sim_nmP (fun b24 => ?_)
      refine sim_pop dX5_readPiece_36 rfl ?_
      refine sim_goto (tgt := 137) dX5_readPiece_37 (by decide) ?_
      exact sim_vret rfl rfl dX5_readPiece_137
    · refine sim_aload_n 0 rfl dX5_readPiece_20 ?_
      refine sim_iload_n 1 rfl dX5_readPiece_21 ?_
      refine sim_iconst (v := 1) (by decide) dX5_readPiece_22 ?_
      refine sim_iadd dX5_readPiece_23 ?_
      refine sim_bind (fun b25 e26 => ?_)
      refine sim_cV (As := [.int (p1 + (1 : Int32))]) (st := []) (r := none) (h1 := b25) (hrp (p1 + (1 : Int32)) b21.2 b25 e26) (fun _ => rfl) mlX5_92 mtX5_readPiece rfl rfl rfl rfl (by omega) rfl (Nat.le_of_ble_eq_true rfl) dX5_readPiece_24 ?_
      refine sim_aload_n 0 rfl dX5_readPiece_27 ?_
      refine sim_getR flX5_12 rfl rfl dX5_readPiece_28 ?_
      refine sim_iconst (v := 2) (by decide) dX5_readPiece_31 ?_
      refine sim_iconst (v := 0) (by decide) dX5_readPiece_32 ?_
      refine sim_cV (As := [.int (2 : Int32), .int (0 : Int32)]) (st := []) (r := (some (.int ((fX4_emit (2 : Int32) (0 : Int32) b25).1)))) (h1 := (fX4_emit (2 : Int32) (0 : Int32) b25).2) (okX4_emit (2 : Int32) (0 : Int32) b25) (fun _ => rfl) mlX5_98 mtX4_emit rfl rfl rfl rfl (by omega) rfl (Nat.le_of_ble_eq_true rfl) dX5_readPiece_33 ?_
      refine sim_nmP (fun b27 => ?_)
      refine sim_pop dX5_readPiece_36 rfl ?_
      refine sim_goto (tgt := 137) dX5_readPiece_37 (by decide) ?_
      exact sim_vret rfl rfl dX5_readPiece_137
theorem okX5_readPiece (d : Nat) (rp : Int32 → AH → Option AH) (rc : Int32 → AH → Option AH) (hrp : ∀ (p : Int32) (h b : AH), rp p h = some b → Ok yX5_readPiece cX5_readPiece 3 none (40 + 2 * d) [.ref 34, .int p] h (none, b)) (hrc : ∀ (p : Int32) (h b : AH), rc p h = some b → Ok yX5_readChoice cX5_readChoice 7 none (41 + 2 * d) [.ref 34, .int p] h (none, b)) (p1 : Int32) (h : AH) (b : AH) (e : fX5_readPiece rp rc p1 h = some b) : Ok yX5_readPiece cX5_readPiece 3 none (42 + 2 * d) [.ref 34, .int p1] h (none, b) := ok_of (sX5_readPiece d rp rc hrp hrc p1 h) (by rw [e]; rfl) (by decide +kernel) (Nat.le_of_ble_eq_true rfl)
def fX5_readPieceD : Nat → Int32 → AH → Option AH
  | 0, _, _ => none
  | d + 1, p, h => fX5_readPiece (fX5_readPieceD d) (fX5_readChoice (fX5_readPieceD d)) p h
theorem okX5_readPieceD : ∀ (d : Nat) (p : Int32) (h b : AH), fX5_readPieceD d p h = some b → Ok yX5_readPiece cX5_readPiece 3 none (40 + 2 * d) [.ref 34, .int p] h (none, b) := by
  intro d
  induction d with
  | zero => intro p h b e; cases e
  | succ d ih =>
    intro p h b e
    have := okX5_readPiece d (fX5_readPieceD d) (fX5_readChoice (fX5_readPieceD d)) ih (fun p h b e => okX5_readChoice d (fX5_readPieceD d) ih p h b e) p h b e
    have e2 : 40 + 2 * (d + 1) = 42 + 2 * d := by omega
    rw [e2]
    exact this
def fX5_readChoiceD (d : Nat) (p : Int32) (h : AH) : Option AH := fX5_readChoice (fX5_readPieceD d) p h
theorem okX5_readChoiceD (d : Nat) (p : Int32) (h b : AH) (e : fX5_readChoiceD d p h = some b) : Ok yX5_readChoice cX5_readChoice 7 none (41 + 2 * d) [.ref 34, .int p] h (none, b) := okX5_readChoice d (fX5_readPieceD d) (okX5_readPieceD d) p h b e
def fX4_closeClause (h : AH) : AH :=
  letT (sI h 35 0 ((h.1 35 0) + (1 : Int32))) (fun g1 =>
  letT (fX11_put 38 (g1.1 35 0) (g1.1 35 2) g1) (fun g2 =>
  g2))
theorem sX4_closeClause (h : AH) : Sim RX4 cX4_closeClause 1 none 2 (tV) (fX4_closeClause h) 0 [(0, .ref 35)] [] h := by
  unfold fX4_closeClause
  refine sim_aload_n 0 rfl dX4_closeClause_0 ?_
  refine sim_dup dX4_closeClause_1 rfl ?_
  refine sim_getI flX4_9 rfl rfl dX4_closeClause_2 ?_
  refine sim_iconst (v := 1) (by decide) dX4_closeClause_5 ?_
  refine sim_iadd dX4_closeClause_6 ?_
  refine sim_putI fpX4_9 rfl rfl rfl rfl dX4_closeClause_7 ?_
  refine sim_nmH (fun g1 => ?_)
  refine sim_aload_n 0 rfl dX4_closeClause_10 ?_
  refine sim_getR flX4_35 rfl rfl dX4_closeClause_11 ?_
  refine sim_aload_n 0 rfl dX4_closeClause_14 ?_
  refine sim_getI flX4_9 rfl rfl dX4_closeClause_15 ?_
  refine sim_aload_n 0 rfl dX4_closeClause_18 ?_
  refine sim_getI flX4_19 rfl rfl dX4_closeClause_19 ?_
  refine sim_cS (As := [.ref 38, .int (g1.1 35 0), .int (g1.1 35 2)]) (st := []) (r := none) (h1 := (fX11_put 38 (g1.1 35 0) (g1.1 35 2) g1)) (okX11_put 38 rfl (g1.1 35 0) (g1.1 35 2) g1) (fun _ => rfl) mlX4_51 mtX11_put rfl (Nat.le_of_ble_eq_true rfl) rfl (Nat.le_of_ble_eq_true rfl) dX4_closeClause_22 ?_
  refine sim_nmH (fun g2 => ?_)
  exact sim_vret rfl rfl dX4_closeClause_25
theorem okX4_closeClause (h : AH) : Ok yX4_closeClause cX4_closeClause 1 none 2 [.ref 35] h (none, fX4_closeClause h) := ok_of (sX4_closeClause h) rfl (by decide +kernel) (Nat.le_of_ble_eq_true rfl)
def fX5_readLaw_l17b (rec : Int32 → AH → Option (Int32 × AH)) (K136 : AH → Option (Int32 × AH)) (K151 : AH → Option (Int32 × AH)) (x2 : Int32) (h : AH) : Option (Int32 × AH) :=
  if (14 : Int32) < x2 then
    K151 h
  else
    letT (fX5_readLetter x2 h) (fun g4 =>
    letT (fun (g5 : AH) =>
      letT (fX4_openCondition g5) (fun g7 =>
      letT (fX10_expect (40 : Int32) g7) (fun g8 =>
      (fX5_readChoiceD 8 (1 : Int32) g8).bind (fun b9 =>
      letT (fX10_expect (41 : Int32) b9) (fun g11 =>
      letT (fun (g12 : AH) =>
        letT (letT (fX10_expect (59 : Int32) g12) (fun g15 =>
          if (fX10_isSound g15) = 0 then
            K136 g15
          else
            rec (x2 + 1) g15)) (fun J14 =>
        if (fX10_isSound g12) = 0 then
          J14
        else
          if (fX10_isAtEnd g12) = 0 then
            J14
          else
            some (g12.1 35 0, g12))) (fun J13 =>
      if (fX10_isSound g11) = 0 then
        J13 g11
      else
        letT (fX4_closeClause g11) (fun g20 =>
        J13 g20))))))) (fun J6 =>
    if (g4.1 34 2) = (114 : Int32) then
      J6 g4
    else
      (fX5_readSumD 8 (0 : Int32) g4).bind (fun b22 =>
      J6 b22)))
def fX5_readLaw_l17 (K136 : AH → Option (Int32 × AH)) (K151 : AH → Option (Int32 × AH)) : Nat → Int32 → AH → Option (Int32 × AH)
  | 0, _, _ => none
  | n + 1, x2, h => fX5_readLaw_l17b (fX5_readLaw_l17 K136 K151 n) K136 K151 x2 h
theorem sX5_readLaw_l17b {rec : Int32 → AH → Option (Int32 × AH)} {K136 : AH → Option (Int32 × AH)} {K151 : AH → Option (Int32 × AH)} (hR : ∀ (x2 : Int32) (h : AH), Sim RX5 cX5_readLaw 3 (some .int) 58 (Option.map oI) (rec x2 h) 17 [(0, .ref 34), (2, .int x2)] [] h) (hK136 : ∀ (g : AH), Sim RX5 cX5_readLaw 3 (some .int) 58 (Option.map oI) (K136 g) 136 [(0, .ref 34)] [] g) (hK151 : ∀ (g : AH), Sim RX5 cX5_readLaw 3 (some .int) 58 (Option.map oI) (K151 g) 151 [(0, .ref 34)] [] g) : ∀ (x2 : Int32) (h : AH), Sim RX5 cX5_readLaw 3 (some .int) 58 (Option.map oI) (fX5_readLaw_l17b rec K136 K151 x2 h) 17 [(0, .ref 34), (2, .int x2)] [] h := by
  intro x2 h
  unfold fX5_readLaw_l17b
  refine sim_iload_n 1 rfl dX5_readLaw_17 ?_
  refine sim_bipush (v := 14) (by decide) dX5_readLaw_18 ?_
  refine sim_icmp_gt (tgt := 151) dX5_readLaw_20 (by decide) (fun c3 => ?_) (fun c3 => ?_)
  · refine sim_sub [0] rfl ?_
    exact hK151 h
  · refine sim_aload_n 0 rfl dX5_readLaw_23 ?_
    refine sim_iload_n 1 rfl dX5_readLaw_24 ?_
    refine sim_cV (As := [.int x2]) (st := []) (r := none) (h1 := (fX5_readLetter x2 h)) (okX5_readLetter x2 h) (fun _ => rfl) mlX5_35 mtX5_readLetter rfl rfl rfl rfl (Nat.le_of_ble_eq_true rfl) rfl (Nat.le_of_ble_eq_true rfl) dX5_readLaw_25 ?_
    refine sim_nmH (fun g4 => ?_)
    refine sim_aload_n 0 rfl dX5_readLaw_28 ?_
    refine sim_getI flX5_18 rfl rfl dX5_readLaw_29 ?_
    refine sim_bipush (v := 114) (by decide) dX5_readLaw_32 ?_
    refine sim_letJ (fun J6 => ∀ (g5 : AH), Sim RX5 cX5_readLaw 3 (some .int) 58 (Option.map oI) (J6 g5) 42 [(0, .ref 34), (2, .int x2)] [] g5) (fun g5 => ?_) (fun J6 hJ6 => ?_)
    · refine sim_aload_n 0 rfl dX5_readLaw_42 ?_
      refine sim_getR flX5_12 rfl rfl dX5_readLaw_43 ?_
      refine sim_cV (As := []) (st := []) (r := none) (h1 := (fX4_openCondition g5)) (okX4_openCondition g5) (fun _ => rfl) mlX5_41 mtX4_openCondition rfl rfl rfl rfl (Nat.le_of_ble_eq_true rfl) rfl (Nat.le_of_ble_eq_true rfl) dX5_readLaw_46 ?_
      refine sim_nmH (fun g7 => ?_)
      refine sim_aload_n 0 rfl dX5_readLaw_49 ?_
      refine sim_getR flX5_22 rfl rfl dX5_readLaw_50 ?_
      refine sim_bipush (v := 40) (by decide) dX5_readLaw_53 ?_
      refine sim_cV (As := [.int (40 : Int32)]) (st := []) (r := none) (h1 := (fX10_expect (40 : Int32) g7)) (okX10_expect (40 : Int32) g7) (fun _ => rfl) mlX5_44 mtX10_expect rfl rfl rfl rfl (Nat.le_of_ble_eq_true rfl) rfl (Nat.le_of_ble_eq_true rfl) dX5_readLaw_55 ?_
      refine sim_nmH (fun g8 => ?_)
      refine sim_aload_n 0 rfl dX5_readLaw_58 ?_
      refine sim_iconst (v := 1) (by decide) dX5_readLaw_59 ?_
      refine sim_bind (fun b9 e10 => ?_)
      refine sim_cV (As := [.int (1 : Int32)]) (st := []) (r := none) (h1 := b9) (okX5_readChoiceD 8 (1 : Int32) g8 b9 e10) (fun _ => rfl) mlX5_48 mtX5_readChoice rfl rfl rfl rfl (Nat.le_of_ble_eq_true rfl) rfl (Nat.le_of_ble_eq_true rfl) dX5_readLaw_60 ?_
      refine sim_aload_n 0 rfl dX5_readLaw_63 ?_
      refine sim_getR flX5_22 rfl rfl dX5_readLaw_64 ?_
      refine sim_bipush (v := 41) (by decide) dX5_readLaw_67 ?_
      refine sim_cV (As := [.int (41 : Int32)]) (st := []) (r := none) (h1 := (fX10_expect (41 : Int32) b9)) (okX10_expect (41 : Int32) b9) (fun _ => rfl) mlX5_44 mtX10_expect rfl rfl rfl rfl (Nat.le_of_ble_eq_true rfl) rfl (Nat.le_of_ble_eq_true rfl) dX5_readLaw_69 ?_
      refine sim_nmH (fun g11 => ?_)
      refine sim_aload_n 0 rfl dX5_readLaw_72 ?_
      refine sim_getR flX5_22 rfl rfl dX5_readLaw_73 ?_
      refine sim_cV (As := []) (st := []) (r := (some (.int (fX10_isSound g11)))) (h1 := g11) (okX10_isSound g11) (fun _ => rfl) mlX5_51 mtX10_isSound rfl rfl rfl rfl (Nat.le_of_ble_eq_true rfl) rfl (Nat.le_of_ble_eq_true rfl) dX5_readLaw_76 ?_
      refine sim_letJ (fun J13 => ∀ (g12 : AH), Sim RX5 cX5_readLaw 3 (some .int) 58 (Option.map oI) (J13 g12) 89 [(0, .ref 34), (2, .int x2)] [] g12) (fun g12 => ?_) (fun J13 hJ13 => ?_)
      · refine sim_aload_n 0 rfl dX5_readLaw_89 ?_
        refine sim_getR flX5_22 rfl rfl dX5_readLaw_90 ?_
        refine sim_cV (As := []) (st := []) (r := (some (.int (fX10_isSound g12)))) (h1 := g12) (okX10_isSound g12) (fun _ => rfl) mlX5_51 mtX10_isSound rfl rfl rfl rfl (Nat.le_of_ble_eq_true rfl) rfl (Nat.le_of_ble_eq_true rfl) dX5_readLaw_93 ?_
        refine sim_letJ (fun J14 => Sim RX5 cX5_readLaw 3 (some .int) 58 (Option.map oI) (J14) 117 [(0, .ref 34), (2, .int x2)] [] g12) (?_) (fun J14 hJ14 => ?_)
        · refine sim_aload_n 0 rfl dX5_readLaw_117 ?_
          refine sim_getR flX5_22 rfl rfl dX5_readLaw_118 ?_
          refine sim_bipush (v := 59) (by decide) dX5_readLaw_121 ?_
          refine sim_cV (As := [.int (59 : Int32)]) (st := []) (r := none) (h1 := (fX10_expect (59 : Int32) g12)) (okX10_expect (59 : Int32) g12) (fun _ => rfl) mlX5_44 mtX10_expect rfl rfl rfl rfl (Nat.le_of_ble_eq_true rfl) rfl (Nat.le_of_ble_eq_true rfl) dX5_readLaw_123 ?_
          refine sim_nmH (fun g15 => ?_)
          refine sim_aload_n 0 rfl dX5_readLaw_126 ?_
          refine sim_getR flX5_22 rfl rfl dX5_readLaw_127 ?_
          refine sim_cV (As := []) (st := []) (r := (some (.int (fX10_isSound g15)))) (h1 := g15) (okX10_isSound g15) (fun _ => rfl) mlX5_51 mtX10_isSound rfl rfl rfl rfl (Nat.le_of_ble_eq_true rfl) rfl (Nat.le_of_ble_eq_true rfl) dX5_readLaw_130 ?_
          refine sim_if_ne (tgt := 145) dX5_readLaw_133 (by decide) (fun c16 => ?_) (fun c16 => ?_)
          · refine sim_iinc (v := x2 + 1) (L' := [(2, .int (x2 + 1)), (0, .ref 34)]) 1 rfl rfl rfl (by decide) dX5_readLaw_145 ?_
            refine sim_goto (tgt := 17) dX5_readLaw_148 (by decide) ?_
            refine sim_sub [1, 0] rfl ?_
            exact hR (x2 + 1) g15
          · refine sim_sub [0] rfl ?_
            exact hK136 g15
        refine sim_if_eq (tgt := 117) dX5_readLaw_96 (by decide) (fun c17 => ?_) (fun c17 => ?_)
        · exact hJ14
        · refine sim_aload_n 0 rfl dX5_readLaw_99 ?_
          refine sim_getR flX5_22 rfl rfl dX5_readLaw_100 ?_
          refine sim_cV (As := []) (st := []) (r := (some (.int (fX10_isAtEnd g12)))) (h1 := g12) (okX10_isAtEnd g12) (fun _ => rfl) mlX5_58 mtX10_isAtEnd rfl rfl rfl rfl (Nat.le_of_ble_eq_true rfl) rfl (Nat.le_of_ble_eq_true rfl) dX5_readLaw_103 ?_
          refine sim_if_eq (tgt := 117) dX5_readLaw_106 (by decide) (fun c18 => ?_) (fun c18 => ?_)
          · exact hJ14
          · refine sim_aload_n 0 rfl dX5_readLaw_109 ?_
            refine sim_getR flX5_12 rfl rfl dX5_readLaw_110 ?_
            refine sim_getI flX5_61 rfl rfl dX5_readLaw_113 ?_
            exact sim_iret rfl rfl dX5_readLaw_116
      refine sim_if_eq (tgt := 89) dX5_readLaw_79 (by decide) (fun c19 => ?_) (fun c19 => ?_)
      · exact hJ13 g11
      · refine sim_aload_n 0 rfl dX5_readLaw_82 ?_
        refine sim_getR flX5_12 rfl rfl dX5_readLaw_83 ?_
        refine sim_cV (As := []) (st := []) (r := none) (h1 := (fX4_closeClause g11)) (okX4_closeClause g11) (fun _ => rfl) mlX5_55 mtX4_closeClause rfl rfl rfl rfl (Nat.le_of_ble_eq_true rfl) rfl (Nat.le_of_ble_eq_true rfl) dX5_readLaw_86 ?_
        refine sim_nmH (fun g20 => ?_)
        exact hJ13 g20
    refine sim_icmp_eq (tgt := 42) dX5_readLaw_34 (by decide) (fun c21 => ?_) (fun c21 => ?_)
    · exact hJ6 g4
    · refine sim_aload_n 0 rfl dX5_readLaw_37 ?_
      refine sim_iconst (v := 0) (by decide) dX5_readLaw_38 ?_
      refine sim_bind (fun b22 e23 => ?_)
      refine sim_cV (As := [.int (0 : Int32)]) (st := []) (r := none) (h1 := b22) (okX5_readSumD 8 (0 : Int32) g4 b22 e23) (fun _ => rfl) mlX5_38 mtX5_readSum rfl rfl rfl rfl (Nat.le_of_ble_eq_true rfl) rfl (Nat.le_of_ble_eq_true rfl) dX5_readLaw_39 ?_
      exact hJ6 b22
theorem sX5_readLaw_l17 {K136 : AH → Option (Int32 × AH)} {K151 : AH → Option (Int32 × AH)} (hK136 : ∀ (g : AH), Sim RX5 cX5_readLaw 3 (some .int) 58 (Option.map oI) (K136 g) 136 [(0, .ref 34)] [] g) (hK151 : ∀ (g : AH), Sim RX5 cX5_readLaw 3 (some .int) 58 (Option.map oI) (K151 g) 151 [(0, .ref 34)] [] g) : ∀ (n : Nat) (x2 : Int32) (h : AH), Sim RX5 cX5_readLaw 3 (some .int) 58 (Option.map oI) (fX5_readLaw_l17 K136 K151 n x2 h) 17 [(0, .ref 34), (2, .int x2)] [] h := by
  intro n
  induction n with
  | zero => intro x2 h; exact sim_none
  | succ n ih => intro x2 h; exact sX5_readLaw_l17b ih hK136 hK151 x2 h
def fX5_readLaw (p1 : Int32) (h : AH) : Option (Int32 × AH) :=
  letT (fX10_beginText p1 h) (fun g1 =>
  letT (fX4_clear g1) (fun g2 =>
  fX5_readLaw_l17 (fun (g24 : AH) =>
    some (-(g24.1 1 4), g24)) (fun (g25 : AH) =>
    some (-(g25.1 1 4), g25)) fuel0 (0 : Int32) g2))
theorem sX5_readLaw (p1 : Int32) (h : AH) : Sim RX5 cX5_readLaw 3 (some .int) 58 (Option.map oI) (fX5_readLaw p1 h) 0 [(0, .ref 34), (1, .int p1)] [] h := by
  unfold fX5_readLaw
  refine sim_aload_n 0 rfl dX5_readLaw_0 ?_
  refine sim_getR flX5_22 rfl rfl dX5_readLaw_1 ?_
  refine sim_iload_n 1 rfl dX5_readLaw_4 ?_
  refine sim_cV (As := [.int p1]) (st := []) (r := none) (h1 := (fX10_beginText p1 h)) (okX10_beginText p1 h) (fun _ => rfl) mlX5_26 mtX10_beginText rfl rfl rfl rfl (Nat.le_of_ble_eq_true rfl) rfl (Nat.le_of_ble_eq_true rfl) dX5_readLaw_5 ?_
  refine sim_nmH (fun g1 => ?_)
  refine sim_aload_n 0 rfl dX5_readLaw_8 ?_
  refine sim_getR flX5_12 rfl rfl dX5_readLaw_9 ?_
  refine sim_cV (As := []) (st := []) (r := none) (h1 := (fX4_clear g1)) (okX4_clear g1) (fun _ => rfl) mlX5_32 mtX4_clear rfl rfl rfl rfl (Nat.le_of_ble_eq_true rfl) rfl (Nat.le_of_ble_eq_true rfl) dX5_readLaw_12 ?_
  refine sim_nmH (fun g2 => ?_)
  refine sim_iconst (v := 0) (by decide) dX5_readLaw_15 ?_
  refine sim_istore_n (L' := [(2, .int (0 : Int32)), (0, .ref 34), (1, .int p1)]) rfl (by decide) dX5_readLaw_16 ?_
  refine sim_sub [1, 0] rfl ?_
  refine sX5_readLaw_l17 (fun g24 => ?_) (fun g25 => ?_) _ (0 : Int32) g2
  · refine sim_aload_n 0 rfl dX5_readLaw_136 ?_
    refine sim_getR flX5_22 rfl rfl dX5_readLaw_137 ?_
    refine sim_getI flX5_64 rfl rfl dX5_readLaw_140 ?_
    refine sim_ineg dX5_readLaw_143 ?_
    exact sim_iret rfl rfl dX5_readLaw_144
  · refine sim_aload_n 0 rfl dX5_readLaw_151 ?_
    refine sim_getR flX5_22 rfl rfl dX5_readLaw_152 ?_
    refine sim_getI flX5_64 rfl rfl dX5_readLaw_155 ?_
    refine sim_ineg dX5_readLaw_158 ?_
    exact sim_iret rfl rfl dX5_readLaw_159
theorem okX5_readLaw (p1 : Int32) (h : AH) (b : Int32 × AH) (e : fX5_readLaw p1 h = some b) : Ok yX5_readLaw cX5_readLaw 3 (some .int) 58 [.ref 34, .int p1] h (some (.int b.1), b.2) := ok_of (sX5_readLaw p1 h) (by rw [e]; rfl) (by decide +kernel) (Nat.le_of_ble_eq_true rfl)
def fX4_become (h : AH) : Option AH :=
  letT (sI h 42 0 (h.1 35 0)) (fun g1 =>
  if (g1.1 35 1) = 0 ∨ (g1.1 35 1) = 1 then
  letT (sI g1 42 1 (g1.1 35 1)) (fun g3 =>
  letT (sI g3 42 2 (g3.1 35 2)) (fun g4 =>
  (fX11_copyRow 36 43 g4).bind (fun b5 =>
  (fX11_copyRow 37 44 b5).bind (fun b7 =>
  (fX11_copyRow 38 45 b7).bind (fun b9 =>
  (fX11_copyRow 39 46 b9).bind (fun b11 =>
  some b11))))))
  else none)
theorem sX4_become (h : AH) : Sim RX4 cX4_become 2 none 2 (Option.map oV) (fX4_become h) 0 [(0, .ref 42), (1, .ref 35)] [] h := by
  unfold fX4_become
  refine sim_aload_n 0 rfl dX4_become_0 ?_
  refine sim_aload_n 1 rfl dX4_become_1 ?_
  refine sim_getI flX4_9 rfl rfl dX4_become_2 ?_
  refine sim_putI fpX4_9 rfl rfl rfl rfl dX4_become_5 ?_
  refine sim_nmH (fun g1 => ?_)
  refine sim_aload_n 0 rfl dX4_become_8 ?_
  refine sim_aload_n 1 rfl dX4_become_9 ?_
  refine sim_getI flX4_15 rfl rfl dX4_become_10 ?_
  refine sim_guard (fun c2 => ?_)
  refine sim_putI fpX4_15 (nar_b c2) (fit_b c2) rfl rfl dX4_become_13 ?_
  refine sim_nmH (fun g3 => ?_)
  refine sim_aload_n 0 rfl dX4_become_16 ?_
  refine sim_aload_n 1 rfl dX4_become_17 ?_
  refine sim_getI flX4_19 rfl rfl dX4_become_18 ?_
  refine sim_putI fpX4_19 rfl rfl rfl rfl dX4_become_21 ?_
  refine sim_nmH (fun g4 => ?_)
  refine sim_aload_n 1 rfl dX4_become_24 ?_
  refine sim_getR flX4_28 rfl rfl dX4_become_25 ?_
  refine sim_aload_n 0 rfl dX4_become_28 ?_
  refine sim_getR flX4_28 rfl rfl dX4_become_29 ?_
  refine sim_bind (fun b5 e6 => ?_)
  refine sim_cS (As := [.ref 36, .ref 43]) (st := []) (r := none) (h1 := b5) (okX11_copyRow 36 rfl 43 rfl g4 b5 e6) (fun _ => rfl) mlX4_47 mtX11_copyRow rfl (Nat.le_of_ble_eq_true rfl) rfl (Nat.le_of_ble_eq_true rfl) dX4_become_32 ?_
  refine sim_aload_n 1 rfl dX4_become_35 ?_
  refine sim_getR flX4_32 rfl rfl dX4_become_36 ?_
  refine sim_aload_n 0 rfl dX4_become_39 ?_
  refine sim_getR flX4_32 rfl rfl dX4_become_40 ?_
  refine sim_bind (fun b7 e8 => ?_)
  refine sim_cS (As := [.ref 37, .ref 44]) (st := []) (r := none) (h1 := b7) (okX11_copyRow 37 rfl 44 rfl b5 b7 e8) (fun _ => rfl) mlX4_47 mtX11_copyRow rfl (Nat.le_of_ble_eq_true rfl) rfl (Nat.le_of_ble_eq_true rfl) dX4_become_43 ?_
  refine sim_aload_n 1 rfl dX4_become_46 ?_
  refine sim_getR flX4_35 rfl rfl dX4_become_47 ?_
  refine sim_aload_n 0 rfl dX4_become_50 ?_
  refine sim_getR flX4_35 rfl rfl dX4_become_51 ?_
  refine sim_bind (fun b9 e10 => ?_)
  refine sim_cS (As := [.ref 38, .ref 45]) (st := []) (r := none) (h1 := b9) (okX11_copyRow 38 rfl 45 rfl b7 b9 e10) (fun _ => rfl) mlX4_47 mtX11_copyRow rfl (Nat.le_of_ble_eq_true rfl) rfl (Nat.le_of_ble_eq_true rfl) dX4_become_54 ?_
  refine sim_aload_n 1 rfl dX4_become_57 ?_
  refine sim_getR flX4_38 rfl rfl dX4_become_58 ?_
  refine sim_aload_n 0 rfl dX4_become_61 ?_
  refine sim_getR flX4_38 rfl rfl dX4_become_62 ?_
  refine sim_bind (fun b11 e12 => ?_)
  refine sim_cS (As := [.ref 39, .ref 46]) (st := []) (r := none) (h1 := b11) (okX11_copyRow 39 rfl 46 rfl b9 b11 e12) (fun _ => rfl) mlX4_47 mtX11_copyRow rfl (Nat.le_of_ble_eq_true rfl) rfl (Nat.le_of_ble_eq_true rfl) dX4_become_65 ?_
  exact sim_vret rfl rfl dX4_become_68
theorem okX4_become (h : AH) (b : AH) (e : fX4_become h = some b) : Ok yX4_become cX4_become 2 none 2 [.ref 42, .ref 35] h (none, b) := ok_of (sX4_become h) (by rw [e]; rfl) (by decide +kernel) (Nat.le_of_ble_eq_true rfl)
def fX11_law (p1 : Int32) (h : AH) : Option (Int32 × AH) :=
  if p1 < (1 : Int32) then
    some ((-1 : Int32), h)
  else
    if (200 : Int32) < p1 then
      some ((-1 : Int32), h)
    else
      if (h.1 1 1) < p1 then
        some ((-1 : Int32), h)
      else
        (fX5_readLaw p1 h).bind (fun b4 =>
        letT (fX10_clear b4.2) (fun g6 =>
        if 0 < b4.1 then
          (fX4_become g6).bind (fun b8 =>
          some (b4.1, b8))
        else
          some (b4.1, g6)))
theorem sX11_law (p1 : Int32) (h : AH) : Sim RX11 cX11_law 3 (some .int) 59 (Option.map oI) (fX11_law p1 h) 0 [(0, .ref 0), (1, .int p1)] [] h := by
  unfold fX11_law
  refine sim_iload_n 1 rfl dX11_law_0 ?_
  refine sim_iconst (v := 1) (by decide) dX11_law_1 ?_
  refine sim_icmp_lt (tgt := 23) dX11_law_2 (by decide) (fun c1 => ?_) (fun c1 => ?_)
  · refine sim_iconst (v := -1) (by decide) dX11_law_23 ?_
    exact sim_iret rfl rfl dX11_law_24
  · refine sim_iload_n 1 rfl dX11_law_5 ?_
    refine sim_sipush (v := 200) (by decide) dX11_law_6 ?_
    refine sim_icmp_gt (tgt := 23) dX11_law_9 (by decide) (fun c2 => ?_) (fun c2 => ?_)
    · refine sim_iconst (v := -1) (by decide) dX11_law_23 ?_
      exact sim_iret rfl rfl dX11_law_24
    · refine sim_iload_n 1 rfl dX11_law_12 ?_
      refine sim_aload_n 0 rfl dX11_law_13 ?_
      refine sim_getR flX11_10 rfl rfl dX11_law_14 ?_
      refine sim_getI flX11_116 rfl rfl dX11_law_17 ?_
      refine sim_icmp_le (tgt := 25) dX11_law_20 (by decide) (fun c3 => ?_) (fun c3 => ?_)
      · refine sim_aload_n 0 rfl dX11_law_25 ?_
        refine sim_getR flX11_42 rfl rfl dX11_law_26 ?_
        refine sim_iload_n 1 rfl dX11_law_29 ?_
        refine sim_bind (fun b4 e5 => ?_)
        refine sim_cV (As := [.int p1]) (st := []) (r := (some (.int b4.1))) (h1 := b4.2) (okX5_readLaw p1 h b4 e5) (fun _ => rfl) mlX11_146 mtX5_readLaw rfl rfl rfl rfl (Nat.le_of_ble_eq_true rfl) rfl (Nat.le_of_ble_eq_true rfl) dX11_law_30 ?_
        refine sim_istore_n (L' := [(2, .int b4.1), (0, .ref 0), (1, .int p1)]) rfl (by decide) dX11_law_33 ?_
        refine sim_aload_n 1 rfl dX11_law_34 ?_
        refine sim_getR flX11_10 rfl rfl dX11_law_35 ?_
        refine sim_cV (As := []) (st := []) (r := none) (h1 := (fX10_clear b4.2)) (okX10_clear b4.2) (fun _ => rfl) mlX11_130 mtX10_clear rfl rfl rfl rfl (Nat.le_of_ble_eq_true rfl) rfl (Nat.le_of_ble_eq_true rfl) dX11_law_38 ?_
        refine sim_nmH (fun g6 => ?_)
        refine sim_iload_n 0 rfl dX11_law_41 ?_
        refine sim_if_le (tgt := 59) dX11_law_42 (by decide) (fun c7 => ?_) (fun c7 => ?_)
        · refine sim_iload_n 0 rfl dX11_law_59 ?_
          exact sim_iret rfl rfl dX11_law_60
        · refine sim_aload_n 1 rfl dX11_law_45 ?_
          refine sim_getR flX11_49 rfl rfl dX11_law_46 ?_
          refine sim_aload_n 1 rfl dX11_law_49 ?_
          refine sim_getR flX11_42 rfl rfl dX11_law_50 ?_
          refine sim_getR flX11_150 rfl rfl dX11_law_53 ?_
          refine sim_bind (fun b8 e9 => ?_)
          refine sim_cV (As := [.ref 35]) (st := []) (r := none) (h1 := b8) (okX4_become g6 b8 e9) (fun _ => rfl) mlX11_152 mtX4_become rfl rfl rfl rfl (Nat.le_of_ble_eq_true rfl) rfl (Nat.le_of_ble_eq_true rfl) dX11_law_56 ?_
          refine sim_iload_n 0 rfl dX11_law_59 ?_
          exact sim_iret rfl rfl dX11_law_60
      · refine sim_iconst (v := -1) (by decide) dX11_law_23 ?_
        exact sim_iret rfl rfl dX11_law_24
theorem okX11_law (p1 : Int32) (h : AH) (b : Int32 × AH) (e : fX11_law p1 h = some b) : Ok yX11_law cX11_law 3 (some .int) 59 [.ref 0, .int p1] h (some (.int b.1), b.2) := ok_of (sX11_law p1 h) (by rw [e]; rfl) (by decide +kernel) (Nat.le_of_ble_eq_true rfl)
def fX6_holds (p1 : Int32) (h : AH) : Int32 :=
  if p1 < 0 then
    (0 : Int32)
  else
    if p1 < (h.1 6 0) then
      (1 : Int32)
    else
      (0 : Int32)
theorem sX6_holds (p1 : Int32) (h : AH) : Sim RX6 cX6_holds 2 (some .boolean) 1 (tI h) (fX6_holds p1 h) 0 [(0, .ref 6), (1, .int p1)] [] h := by
  unfold fX6_holds
  refine sim_iload_n 1 rfl dX6_holds_0 ?_
  refine sim_if_lt (tgt := 16) dX6_holds_1 (by decide) (fun c1 => ?_) (fun c1 => ?_)
  · refine sim_iconst (v := 0) (by decide) dX6_holds_16 ?_
    exact sim_zret rfl rfl rfl dX6_holds_17
  · refine sim_iload_n 1 rfl dX6_holds_4 ?_
    refine sim_aload_n 0 rfl dX6_holds_5 ?_
    refine sim_getI flX6_9 rfl rfl dX6_holds_6 ?_
    refine sim_icmp_ge (tgt := 16) dX6_holds_9 (by decide) (fun c2 => ?_) (fun c2 => ?_)
    · refine sim_iconst (v := 0) (by decide) dX6_holds_16 ?_
      exact sim_zret rfl rfl rfl dX6_holds_17
    · refine sim_iconst (v := 1) (by decide) dX6_holds_12 ?_
      refine sim_goto (tgt := 17) dX6_holds_13 (by decide) ?_
      exact sim_zret rfl rfl rfl dX6_holds_17
theorem okX6_holds (p1 : Int32) (h : AH) : Ok yX6_holds cX6_holds 2 (some .boolean) 1 [.ref 6, .int p1] h (some (.int (fX6_holds p1 h)), h) := ok_of (sX6_holds p1 h) rfl (by decide +kernel) (Nat.le_of_ble_eq_true rfl)
def fX9_claimOf (p1 : Int32) (h : AH) : Int32 :=
  fX11_at 7 p1 h
theorem sX9_claimOf (p1 : Int32) (h : AH) : Sim RX9 cX9_claimOf 2 (some .int) 2 (tI h) (fX9_claimOf p1 h) 0 [(0, .ref 3), (1, .int p1)] [] h := by
  unfold fX9_claimOf
  refine sim_aload_n 0 rfl dX9_claimOf_0 ?_
  refine sim_getR flX9_28 rfl rfl dX9_claimOf_1 ?_
  refine sim_getR flX9_56 rfl rfl dX9_claimOf_4 ?_
  refine sim_iload_n 1 rfl dX9_claimOf_7 ?_
  refine sim_cS (As := [.ref 7, .int p1]) (st := []) (r := (some (.int (fX11_at 7 p1 h)))) (h1 := h) (okX11_at 7 rfl p1 h) (fun _ => rfl) mlX9_43 mtX11_at rfl (Nat.le_of_ble_eq_true rfl) rfl (Nat.le_of_ble_eq_true rfl) dX9_claimOf_8 ?_
  exact sim_iret rfl rfl dX9_claimOf_11
theorem okX9_claimOf (p1 : Int32) (h : AH) : Ok yX9_claimOf cX9_claimOf 2 (some .int) 2 [.ref 3, .int p1] h (some (.int (fX9_claimOf p1 h)), h) := ok_of (sX9_claimOf p1 h) rfl (by decide +kernel) (Nat.le_of_ble_eq_true rfl)
def fX9_madeOf (p1 : Int32) (p2 : Int32) (p3 : Int32) (a4 : Nat) (h : AH) : Int32 :=
  if p1 = 0 then
    fX11_at 4 p2 h
  else
  if p1 = 1 then
    fX11_at a4 p2 h
  else
  if p1 = 2 then
    fX9_modulo ((h.1 3 0) - (fX11_at a4 p2 h)) h
  else
  if p1 = 3 then
    fX9_modulo ((fX11_at a4 p2 h) + (fX11_at a4 p3 h)) h
  else
  if p1 = 4 then
    fX9_modulo ((fX11_at a4 p2 h) * (fX11_at a4 p3 h)) h
  else
  (0 : Int32)
theorem sX9_madeOf (a4 : Nat) (ia4 : isA a4) (p1 : Int32) (p2 : Int32) (p3 : Int32) (h : AH) : Sim RX9 cX9_madeOf 5 (some .int) 2 (tI h) (fX9_madeOf p1 p2 p3 a4 h) 0 [(0, .ref 3), (1, .int p1), (2, .int p2), (3, .int p3), (4, .ref a4)] [] h := by
  unfold fX9_madeOf
  refine sim_iload_n 1 rfl dX9_madeOf_0 ?_
  refine sim_case (v := 0) (tgt := 36) (0) dX9_madeOf_1 (by decide) (by decide) (by decide) rfl (by decide) ?_ (fun c1 => ?_)
  · refine sim_aload_n 0 rfl dX9_madeOf_36 ?_
    refine sim_getR flX9_18 rfl rfl dX9_madeOf_37 ?_
    refine sim_iload_n 2 rfl dX9_madeOf_40 ?_
    refine sim_cS (As := [.ref 4, .int p2]) (st := []) (r := (some (.int (fX11_at 4 p2 h)))) (h1 := h) (okX11_at 4 rfl p2 h) (fun _ => rfl) mlX9_43 mtX11_at rfl (Nat.le_of_ble_eq_true rfl) rfl (Nat.le_of_ble_eq_true rfl) dX9_madeOf_41 ?_
    exact sim_iret rfl rfl dX9_madeOf_44
  refine sim_case (v := 1) (tgt := 45) (1) dX9_madeOf_1 (by decide) (by decide) (by decide) rfl (by decide) ?_ (fun c2 => ?_)
  · refine sim_aload 4 rfl dX9_madeOf_45 ?_
    refine sim_iload_n 2 rfl dX9_madeOf_47 ?_
    refine sim_cS (As := [.ref a4, .int p2]) (st := []) (r := (some (.int (fX11_at a4 p2 h)))) (h1 := h) (okX11_at a4 ia4 p2 h) (fun _ => rfl) mlX9_43 mtX11_at rfl (Nat.le_of_ble_eq_true rfl) rfl (Nat.le_of_ble_eq_true rfl) dX9_madeOf_48 ?_
    exact sim_iret rfl rfl dX9_madeOf_51
  refine sim_case (v := 2) (tgt := 52) (2) dX9_madeOf_1 (by decide) (by decide) (by decide) rfl (by decide) ?_ (fun c3 => ?_)
  · refine sim_aload_n 0 rfl dX9_madeOf_52 ?_
    refine sim_aload_n 0 rfl dX9_madeOf_53 ?_
    refine sim_getI flX9_9 rfl rfl dX9_madeOf_54 ?_
    refine sim_aload 4 rfl dX9_madeOf_57 ?_
    refine sim_iload_n 2 rfl dX9_madeOf_59 ?_
    refine sim_cS (As := [.ref a4, .int p2]) (st := [.int (h.1 3 0), .ref 3]) (r := (some (.int (fX11_at a4 p2 h)))) (h1 := h) (okX11_at a4 ia4 p2 h) (fun _ => rfl) mlX9_43 mtX11_at rfl (Nat.le_of_ble_eq_true rfl) rfl (Nat.le_of_ble_eq_true rfl) dX9_madeOf_60 ?_
    refine sim_isub dX9_madeOf_63 ?_
    refine sim_cV (As := [.int ((h.1 3 0) - (fX11_at a4 p2 h))]) (st := []) (r := (some (.int (fX9_modulo ((h.1 3 0) - (fX11_at a4 p2 h)) h)))) (h1 := h) (okX9_modulo ((h.1 3 0) - (fX11_at a4 p2 h)) h) (fun _ => rfl) mlX9_47 mtX9_modulo rfl rfl rfl rfl (Nat.le_of_ble_eq_true rfl) rfl (Nat.le_of_ble_eq_true rfl) dX9_madeOf_64 ?_
    exact sim_iret rfl rfl dX9_madeOf_67
  refine sim_case (v := 3) (tgt := 68) (3) dX9_madeOf_1 (by decide) (by decide) (by decide) rfl (by decide) ?_ (fun c4 => ?_)
  · refine sim_aload_n 0 rfl dX9_madeOf_68 ?_
    refine sim_aload 4 rfl dX9_madeOf_69 ?_
    refine sim_iload_n 2 rfl dX9_madeOf_71 ?_
    refine sim_cS (As := [.ref a4, .int p2]) (st := [.ref 3]) (r := (some (.int (fX11_at a4 p2 h)))) (h1 := h) (okX11_at a4 ia4 p2 h) (fun _ => rfl) mlX9_43 mtX11_at rfl (Nat.le_of_ble_eq_true rfl) rfl (Nat.le_of_ble_eq_true rfl) dX9_madeOf_72 ?_
    refine sim_aload 4 rfl dX9_madeOf_75 ?_
    refine sim_iload_n 3 rfl dX9_madeOf_77 ?_
    refine sim_cS (As := [.ref a4, .int p3]) (st := [.int (fX11_at a4 p2 h), .ref 3]) (r := (some (.int (fX11_at a4 p3 h)))) (h1 := h) (okX11_at a4 ia4 p3 h) (fun _ => rfl) mlX9_43 mtX11_at rfl (Nat.le_of_ble_eq_true rfl) rfl (Nat.le_of_ble_eq_true rfl) dX9_madeOf_78 ?_
    refine sim_iadd dX9_madeOf_81 ?_
    refine sim_cV (As := [.int ((fX11_at a4 p2 h) + (fX11_at a4 p3 h))]) (st := []) (r := (some (.int (fX9_modulo ((fX11_at a4 p2 h) + (fX11_at a4 p3 h)) h)))) (h1 := h) (okX9_modulo ((fX11_at a4 p2 h) + (fX11_at a4 p3 h)) h) (fun _ => rfl) mlX9_47 mtX9_modulo rfl rfl rfl rfl (Nat.le_of_ble_eq_true rfl) rfl (Nat.le_of_ble_eq_true rfl) dX9_madeOf_82 ?_
    exact sim_iret rfl rfl dX9_madeOf_85
  refine sim_case (v := 4) (tgt := 86) (4) dX9_madeOf_1 (by decide) (by decide) (by decide) rfl (by decide) ?_ (fun c5 => ?_)
  · refine sim_aload_n 0 rfl dX9_madeOf_86 ?_
    refine sim_aload 4 rfl dX9_madeOf_87 ?_
    refine sim_iload_n 2 rfl dX9_madeOf_89 ?_
    refine sim_cS (As := [.ref a4, .int p2]) (st := [.ref 3]) (r := (some (.int (fX11_at a4 p2 h)))) (h1 := h) (okX11_at a4 ia4 p2 h) (fun _ => rfl) mlX9_43 mtX11_at rfl (Nat.le_of_ble_eq_true rfl) rfl (Nat.le_of_ble_eq_true rfl) dX9_madeOf_90 ?_
    refine sim_aload 4 rfl dX9_madeOf_93 ?_
    refine sim_iload_n 3 rfl dX9_madeOf_95 ?_
    refine sim_cS (As := [.ref a4, .int p3]) (st := [.int (fX11_at a4 p2 h), .ref 3]) (r := (some (.int (fX11_at a4 p3 h)))) (h1 := h) (okX11_at a4 ia4 p3 h) (fun _ => rfl) mlX9_43 mtX11_at rfl (Nat.le_of_ble_eq_true rfl) rfl (Nat.le_of_ble_eq_true rfl) dX9_madeOf_96 ?_
    refine sim_imul dX9_madeOf_99 ?_
    refine sim_cV (As := [.int ((fX11_at a4 p2 h) * (fX11_at a4 p3 h))]) (st := []) (r := (some (.int (fX9_modulo ((fX11_at a4 p2 h) * (fX11_at a4 p3 h)) h)))) (h1 := h) (okX9_modulo ((fX11_at a4 p2 h) * (fX11_at a4 p3 h)) h) (fun _ => rfl) mlX9_47 mtX9_modulo rfl rfl rfl rfl (Nat.le_of_ble_eq_true rfl) rfl (Nat.le_of_ble_eq_true rfl) dX9_madeOf_100 ?_
    exact sim_iret rfl rfl dX9_madeOf_103
  refine sim_dflt (tgt := 104) dX9_madeOf_1 (by omega) (by decide) ?_
  refine sim_iconst (v := 0) (by decide) dX9_madeOf_104 ?_
  exact sim_iret rfl rfl dX9_madeOf_105
theorem okX9_madeOf (p1 : Int32) (p2 : Int32) (p3 : Int32) (a4 : Nat) (ia4 : isA a4) (h : AH) : Ok yX9_madeOf cX9_madeOf 5 (some .int) 2 [.ref 3, .int p1, .int p2, .int p3, .ref a4] h (some (.int (fX9_madeOf p1 p2 p3 a4 h)), h) := ok_of (sX9_madeOf a4 ia4 p1 p2 p3 h) rfl (by decide +kernel) (Nat.le_of_ble_eq_true rfl)
def fX9_made (p1 : Int32) (a2 : Nat) (h : AH) : Int32 :=
  fX9_madeOf (fX11_at 8 p1 h) (fX11_at 9 p1 h) (fX11_at 10 p1 h) a2 h
theorem sX9_made (a2 : Nat) (ia2 : isA a2) (p1 : Int32) (h : AH) : Sim RX9 cX9_made 3 (some .int) 3 (tI h) (fX9_made p1 a2 h) 0 [(0, .ref 3), (1, .int p1), (2, .ref a2)] [] h := by
  unfold fX9_made
  refine sim_aload_n 0 rfl dX9_made_0 ?_
  refine sim_aload_n 0 rfl dX9_made_1 ?_
  refine sim_getR flX9_28 rfl rfl dX9_made_2 ?_
  refine sim_getR flX9_59 rfl rfl dX9_made_5 ?_
  refine sim_iload_n 1 rfl dX9_made_8 ?_
  refine sim_cS (As := [.ref 8, .int p1]) (st := [.ref 3]) (r := (some (.int (fX11_at 8 p1 h)))) (h1 := h) (okX11_at 8 rfl p1 h) (fun _ => rfl) mlX9_43 mtX11_at rfl (Nat.le_of_ble_eq_true rfl) rfl (Nat.le_of_ble_eq_true rfl) dX9_made_9 ?_
  refine sim_aload_n 0 rfl dX9_made_12 ?_
  refine sim_getR flX9_28 rfl rfl dX9_made_13 ?_
  refine sim_getR flX9_62 rfl rfl dX9_made_16 ?_
  refine sim_iload_n 1 rfl dX9_made_19 ?_
  refine sim_cS (As := [.ref 9, .int p1]) (st := [.int (fX11_at 8 p1 h), .ref 3]) (r := (some (.int (fX11_at 9 p1 h)))) (h1 := h) (okX11_at 9 rfl p1 h) (fun _ => rfl) mlX9_43 mtX11_at rfl (Nat.le_of_ble_eq_true rfl) rfl (Nat.le_of_ble_eq_true rfl) dX9_made_20 ?_
  refine sim_aload_n 0 rfl dX9_made_23 ?_
  refine sim_getR flX9_28 rfl rfl dX9_made_24 ?_
  refine sim_getR flX9_65 rfl rfl dX9_made_27 ?_
  refine sim_iload_n 1 rfl dX9_made_30 ?_
  refine sim_cS (As := [.ref 10, .int p1]) (st := [.int (fX11_at 9 p1 h), .int (fX11_at 8 p1 h), .ref 3]) (r := (some (.int (fX11_at 10 p1 h)))) (h1 := h) (okX11_at 10 rfl p1 h) (fun _ => rfl) mlX9_43 mtX11_at rfl (Nat.le_of_ble_eq_true rfl) rfl (Nat.le_of_ble_eq_true rfl) dX9_made_31 ?_
  refine sim_aload_n 2 rfl dX9_made_34 ?_
  refine sim_cV (As := [.int (fX11_at 8 p1 h), .int (fX11_at 9 p1 h), .int (fX11_at 10 p1 h), .ref a2]) (st := []) (r := (some (.int (fX9_madeOf (fX11_at 8 p1 h) (fX11_at 9 p1 h) (fX11_at 10 p1 h) a2 h)))) (h1 := h) (okX9_madeOf (fX11_at 8 p1 h) (fX11_at 9 p1 h) (fX11_at 10 p1 h) a2 ia2 h) (fun _ => rfl) mlX9_68 mtX9_madeOf rfl rfl rfl rfl (Nat.le_of_ble_eq_true rfl) rfl (Nat.le_of_ble_eq_true rfl) dX9_made_35 ?_
  exact sim_iret rfl rfl dX9_made_38
theorem okX9_made (p1 : Int32) (a2 : Nat) (ia2 : isA a2) (h : AH) : Ok yX9_made cX9_made 3 (some .int) 3 [.ref 3, .int p1, .ref a2] h (some (.int (fX9_made p1 a2 h)), h) := ok_of (sX9_made a2 ia2 p1 h) rfl (by decide +kernel) (Nat.le_of_ble_eq_true rfl)
def fX9_workOn_l2b (a2 : Nat) (rec : Int32 → AH → Option AH) (x3 : Int32) (h : AH) : Option AH :=
  if x3 < (h.1 6 0) then
    letT (fX11_put a2 x3 (fX9_made x3 a2 h) h) (fun g2 =>
    rec (x3 + 1) g2)
  else
    some h
def fX9_workOn_l2 (a2 : Nat) : Nat → Int32 → AH → Option AH
  | 0, _, _ => none
  | n + 1, x3, h => fX9_workOn_l2b a2 (fX9_workOn_l2 a2 n) x3 h
theorem sX9_workOn_l2b (a2 : Nat) (ia2 : isA a2) {rec : Int32 → AH → Option AH} (hR : ∀ (x3 : Int32) (h : AH), Sim RX9 cX9_workOn 4 none 4 (Option.map oV) (rec x3 h) 2 [(0, .ref 3), (2, .ref a2), (3, .int x3)] [] h) : ∀ (x3 : Int32) (h : AH), Sim RX9 cX9_workOn 4 none 4 (Option.map oV) (fX9_workOn_l2b a2 rec x3 h) 2 [(0, .ref 3), (2, .ref a2), (3, .int x3)] [] h := by
  intro x3 h
  unfold fX9_workOn_l2b
  refine sim_iload_n 2 rfl dX9_workOn_2 ?_
  refine sim_aload_n 0 rfl dX9_workOn_3 ?_
  refine sim_getR flX9_28 rfl rfl dX9_workOn_4 ?_
  refine sim_getI flX9_72 rfl rfl dX9_workOn_7 ?_
  refine sim_icmp_ge (tgt := 30) dX9_workOn_10 (by decide) (fun c1 => ?_) (fun c1 => ?_)
  · exact sim_vret rfl rfl dX9_workOn_30
  · refine sim_aload_n 1 rfl dX9_workOn_13 ?_
    refine sim_iload_n 2 rfl dX9_workOn_14 ?_
    refine sim_aload_n 0 rfl dX9_workOn_15 ?_
    refine sim_iload_n 2 rfl dX9_workOn_16 ?_
    refine sim_aload_n 1 rfl dX9_workOn_17 ?_
    refine sim_cV (As := [.int x3, .ref a2]) (st := [.int x3, .ref a2]) (r := (some (.int (fX9_made x3 a2 h)))) (h1 := h) (okX9_made x3 a2 ia2 h) (fun _ => rfl) mlX9_75 mtX9_made rfl rfl rfl rfl (Nat.le_of_ble_eq_true rfl) rfl (Nat.le_of_ble_eq_true rfl) dX9_workOn_18 ?_
    refine sim_cS (As := [.ref a2, .int x3, .int (fX9_made x3 a2 h)]) (st := []) (r := none) (h1 := (fX11_put a2 x3 (fX9_made x3 a2 h) h)) (okX11_put a2 ia2 x3 (fX9_made x3 a2 h) h) (fun _ => rfl) mlX9_51 mtX11_put rfl (Nat.le_of_ble_eq_true rfl) rfl (Nat.le_of_ble_eq_true rfl) dX9_workOn_21 ?_
    refine sim_nmH (fun g2 => ?_)
    refine sim_iinc (v := x3 + 1) (L' := [(3, .int (x3 + 1)), (0, .ref 3), (2, .ref a2)]) 2 rfl rfl rfl (by decide) dX9_workOn_24 ?_
    refine sim_goto (tgt := 2) dX9_workOn_27 (by decide) ?_
    refine sim_sub [1, 2, 0] rfl ?_
    exact hR (x3 + 1) g2
theorem sX9_workOn_l2 (a2 : Nat) (ia2 : isA a2) : ∀ (n : Nat) (x3 : Int32) (h : AH), Sim RX9 cX9_workOn 4 none 4 (Option.map oV) (fX9_workOn_l2 a2 n x3 h) 2 [(0, .ref 3), (2, .ref a2), (3, .int x3)] [] h := by
  intro n
  induction n with
  | zero => intro x3 h; exact sim_none
  | succ n ih => intro x3 h; exact sX9_workOn_l2b a2 ia2 ih x3 h
def fX9_workOn (p1 : Int32) (a2 : Nat) (h : AH) : Option AH :=
  fX9_workOn_l2 a2 fuel0 p1 h
theorem sX9_workOn (a2 : Nat) (ia2 : isA a2) (p1 : Int32) (h : AH) : Sim RX9 cX9_workOn 4 none 4 (Option.map oV) (fX9_workOn p1 a2 h) 0 [(0, .ref 3), (1, .int p1), (2, .ref a2)] [] h := by
  unfold fX9_workOn
  refine sim_iload_n 1 rfl dX9_workOn_0 ?_
  refine sim_istore_n (L' := [(3, .int p1), (0, .ref 3), (1, .int p1), (2, .ref a2)]) rfl (by decide) dX9_workOn_1 ?_
  refine sim_sub [1, 3, 0] rfl ?_
  refine sX9_workOn_l2 a2 ia2 _ p1 h
theorem okX9_workOn (p1 : Int32) (a2 : Nat) (ia2 : isA a2) (h : AH) (b : AH) (e : fX9_workOn p1 a2 h = some b) : Ok yX9_workOn cX9_workOn 4 none 4 [.ref 3, .int p1, .ref a2] h (none, b) := ok_of (sX9_workOn a2 ia2 p1 h) (by rw [e]; rfl) (by decide +kernel) (Nat.le_of_ble_eq_true rfl)
def fX9_isWrong (p1 : Int32) (h : AH) : Int32 :=
  if (fX9_claimOf p1 h) = (fX9_made p1 7 h) then
    (0 : Int32)
  else
    (1 : Int32)
theorem sX9_isWrong (p1 : Int32) (h : AH) : Sim RX9 cX9_isWrong 2 (some .boolean) 4 (tI h) (fX9_isWrong p1 h) 0 [(0, .ref 3), (1, .int p1)] [] h := by
  unfold fX9_isWrong
  refine sim_aload_n 0 rfl dX9_isWrong_0 ?_
  refine sim_iload_n 1 rfl dX9_isWrong_1 ?_
  refine sim_cV (As := [.int p1]) (st := []) (r := (some (.int (fX9_claimOf p1 h)))) (h1 := h) (okX9_claimOf p1 h) (fun _ => rfl) mlX9_83 mtX9_claimOf rfl rfl rfl rfl (Nat.le_of_ble_eq_true rfl) rfl (Nat.le_of_ble_eq_true rfl) dX9_isWrong_2 ?_
  refine sim_aload_n 0 rfl dX9_isWrong_5 ?_
  refine sim_iload_n 1 rfl dX9_isWrong_6 ?_
  refine sim_aload_n 0 rfl dX9_isWrong_7 ?_
  refine sim_getR flX9_28 rfl rfl dX9_isWrong_8 ?_
  refine sim_getR flX9_56 rfl rfl dX9_isWrong_11 ?_
  refine sim_cV (As := [.int p1, .ref 7]) (st := [.int (fX9_claimOf p1 h)]) (r := (some (.int (fX9_made p1 7 h)))) (h1 := h) (okX9_made p1 7 rfl h) (fun _ => rfl) mlX9_75 mtX9_made rfl rfl rfl rfl (Nat.le_of_ble_eq_true rfl) rfl (Nat.le_of_ble_eq_true rfl) dX9_isWrong_14 ?_
  refine sim_icmp_eq (tgt := 24) dX9_isWrong_17 (by decide) (fun c1 => ?_) (fun c1 => ?_)
  · refine sim_iconst (v := 0) (by decide) dX9_isWrong_24 ?_
    exact sim_zret rfl rfl rfl dX9_isWrong_25
  · refine sim_iconst (v := 1) (by decide) dX9_isWrong_20 ?_
    refine sim_goto (tgt := 25) dX9_isWrong_21 (by decide) ?_
    exact sim_zret rfl rfl rfl dX9_isWrong_25
theorem okX9_isWrong (p1 : Int32) (h : AH) : Ok yX9_isWrong cX9_isWrong 2 (some .boolean) 4 [.ref 3, .int p1] h (some (.int (fX9_isWrong p1 h)), h) := ok_of (sX9_isWrong p1 h) rfl (by decide +kernel) (Nat.le_of_ble_eq_true rfl)
def fX11_line (p1 : Int32) (p2 : Int32) (h : AH) : Option (Int32 × AH) :=
  if (fX6_holds p1 h) = 0 then
    some ((-1 : Int32), h)
  else
    if p2 = 0 then
      some (fX9_claimOf p1 h, h)
    else
    if p2 = 1 then
      some (fX11_at 8 p1 h, h)
    else
    if p2 = 2 then
      some (fX11_at 9 p1 h, h)
    else
    if p2 = 3 then
      some (fX11_at 10 p1 h, h)
    else
    if p2 = 4 then
      (fX9_workOn (0 : Int32) 49 h).bind (fun b7 =>
      some (fX11_at 49 p1 b7, b7))
    else
    if p2 = 5 then
      some (fX9_made p1 7 h, h)
    else
    if p2 = 6 then
      some (fX11_at 11 p1 h, h)
    else
    if p2 = 7 then
      some (fX11_at 12 p1 h, h)
    else
    if p2 = 8 then
      if (fX9_isWrong p1 h) = 0 then
        some ((0 : Int32), h)
      else
        some ((1 : Int32), h)
    else
    some ((-1 : Int32), h)
theorem sX11_line (p1 : Int32) (p2 : Int32) (h : AH) : Sim RX11 cX11_line 3 (some .int) 5 (Option.map oI) (fX11_line p1 p2 h) 0 [(0, .ref 0), (1, .int p1), (2, .int p2)] [] h := by
  unfold fX11_line
  refine sim_aload_n 0 rfl dX11_line_0 ?_
  refine sim_getR flX11_19 rfl rfl dX11_line_1 ?_
  refine sim_getR flX11_133 rfl rfl dX11_line_4 ?_
  refine sim_iload_n 1 rfl dX11_line_7 ?_
  refine sim_cV (As := [.int p1]) (st := []) (r := (some (.int (fX6_holds p1 h)))) (h1 := h) (okX6_holds p1 h) (fun _ => rfl) mlX11_155 mtX6_holds rfl rfl rfl rfl (Nat.le_of_ble_eq_true rfl) rfl (Nat.le_of_ble_eq_true rfl) dX11_line_8 ?_
  refine sim_if_ne (tgt := 16) dX11_line_11 (by decide) (fun c1 => ?_) (fun c1 => ?_)
  · refine sim_iload_n 2 rfl dX11_line_16 ?_
    refine sim_case (v := 0) (tgt := 68) (0) dX11_line_17 (by decide) (by decide) (by decide) rfl (by decide) ?_ (fun c2 => ?_)
    · refine sim_aload_n 0 rfl dX11_line_68 ?_
      refine sim_getR flX11_19 rfl rfl dX11_line_69 ?_
      refine sim_iload_n 1 rfl dX11_line_72 ?_
      refine sim_cV (As := [.int p1]) (st := []) (r := (some (.int (fX9_claimOf p1 h)))) (h1 := h) (okX9_claimOf p1 h) (fun _ => rfl) mlX11_158 mtX9_claimOf rfl rfl rfl rfl (Nat.le_of_ble_eq_true rfl) rfl (Nat.le_of_ble_eq_true rfl) dX11_line_73 ?_
      exact sim_iret rfl rfl dX11_line_76
    refine sim_case (v := 1) (tgt := 77) (1) dX11_line_17 (by decide) (by decide) (by decide) rfl (by decide) ?_ (fun c3 => ?_)
    · refine sim_aload_n 0 rfl dX11_line_77 ?_
      refine sim_getR flX11_19 rfl rfl dX11_line_78 ?_
      refine sim_getR flX11_133 rfl rfl dX11_line_81 ?_
      refine sim_getR flX11_161 rfl rfl dX11_line_84 ?_
      refine sim_iload_n 1 rfl dX11_line_87 ?_
      refine sim_cS (As := [.ref 8, .int p1]) (st := []) (r := (some (.int (fX11_at 8 p1 h)))) (h1 := h) (okX11_at 8 rfl p1 h) (fun _ => rfl) mlX11_164 mtX11_at rfl (Nat.le_of_ble_eq_true rfl) rfl (Nat.le_of_ble_eq_true rfl) dX11_line_88 ?_
      exact sim_iret rfl rfl dX11_line_91
    refine sim_case (v := 2) (tgt := 92) (2) dX11_line_17 (by decide) (by decide) (by decide) rfl (by decide) ?_ (fun c4 => ?_)
    · refine sim_aload_n 0 rfl dX11_line_92 ?_
      refine sim_getR flX11_19 rfl rfl dX11_line_93 ?_
      refine sim_getR flX11_133 rfl rfl dX11_line_96 ?_
      refine sim_getR flX11_168 rfl rfl dX11_line_99 ?_
      refine sim_iload_n 1 rfl dX11_line_102 ?_
      refine sim_cS (As := [.ref 9, .int p1]) (st := []) (r := (some (.int (fX11_at 9 p1 h)))) (h1 := h) (okX11_at 9 rfl p1 h) (fun _ => rfl) mlX11_164 mtX11_at rfl (Nat.le_of_ble_eq_true rfl) rfl (Nat.le_of_ble_eq_true rfl) dX11_line_103 ?_
      exact sim_iret rfl rfl dX11_line_106
    refine sim_case (v := 3) (tgt := 107) (3) dX11_line_17 (by decide) (by decide) (by decide) rfl (by decide) ?_ (fun c5 => ?_)
    · refine sim_aload_n 0 rfl dX11_line_107 ?_
      refine sim_getR flX11_19 rfl rfl dX11_line_108 ?_
      refine sim_getR flX11_133 rfl rfl dX11_line_111 ?_
      refine sim_getR flX11_171 rfl rfl dX11_line_114 ?_
      refine sim_iload_n 1 rfl dX11_line_117 ?_
      refine sim_cS (As := [.ref 10, .int p1]) (st := []) (r := (some (.int (fX11_at 10 p1 h)))) (h1 := h) (okX11_at 10 rfl p1 h) (fun _ => rfl) mlX11_164 mtX11_at rfl (Nat.le_of_ble_eq_true rfl) rfl (Nat.le_of_ble_eq_true rfl) dX11_line_118 ?_
      exact sim_iret rfl rfl dX11_line_121
    refine sim_case (v := 4) (tgt := 122) (4) dX11_line_17 (by decide) (by decide) (by decide) rfl (by decide) ?_ (fun c6 => ?_)
    · refine sim_aload_n 0 rfl dX11_line_122 ?_
      refine sim_getR flX11_19 rfl rfl dX11_line_123 ?_
      refine sim_iconst (v := 0) (by decide) dX11_line_126 ?_
      refine sim_aload_n 0 rfl dX11_line_127 ?_
      refine sim_getR flX11_53 rfl rfl dX11_line_128 ?_
      refine sim_bind (fun b7 e8 => ?_)
      refine sim_cV (As := [.int (0 : Int32), .ref 49]) (st := []) (r := none) (h1 := b7) (okX9_workOn (0 : Int32) 49 rfl h b7 e8) (fun _ => rfl) mlX11_174 mtX9_workOn rfl rfl rfl rfl (Nat.le_of_ble_eq_true rfl) rfl (Nat.le_of_ble_eq_true rfl) dX11_line_131 ?_
      refine sim_aload_n 0 rfl dX11_line_134 ?_
      refine sim_getR flX11_53 rfl rfl dX11_line_135 ?_
      refine sim_iload_n 1 rfl dX11_line_138 ?_
      refine sim_cS (As := [.ref 49, .int p1]) (st := []) (r := (some (.int (fX11_at 49 p1 b7)))) (h1 := b7) (okX11_at 49 rfl p1 b7) (fun _ => rfl) mlX11_164 mtX11_at rfl (Nat.le_of_ble_eq_true rfl) rfl (Nat.le_of_ble_eq_true rfl) dX11_line_139 ?_
      exact sim_iret rfl rfl dX11_line_142
    refine sim_case (v := 5) (tgt := 143) (5) dX11_line_17 (by decide) (by decide) (by decide) rfl (by decide) ?_ (fun c9 => ?_)
    · refine sim_aload_n 0 rfl dX11_line_143 ?_
      refine sim_getR flX11_19 rfl rfl dX11_line_144 ?_
      refine sim_iload_n 1 rfl dX11_line_147 ?_
      refine sim_aload_n 0 rfl dX11_line_148 ?_
      refine sim_getR flX11_19 rfl rfl dX11_line_149 ?_
      refine sim_getR flX11_133 rfl rfl dX11_line_152 ?_
      refine sim_getR flX11_178 rfl rfl dX11_line_155 ?_
      refine sim_cV (As := [.int p1, .ref 7]) (st := []) (r := (some (.int (fX9_made p1 7 h)))) (h1 := h) (okX9_made p1 7 rfl h) (fun _ => rfl) mlX11_181 mtX9_made rfl rfl rfl rfl (Nat.le_of_ble_eq_true rfl) rfl (Nat.le_of_ble_eq_true rfl) dX11_line_158 ?_
      exact sim_iret rfl rfl dX11_line_161
    refine sim_case (v := 6) (tgt := 162) (6) dX11_line_17 (by decide) (by decide) (by decide) rfl (by decide) ?_ (fun c10 => ?_)
    · refine sim_aload_n 0 rfl dX11_line_162 ?_
      refine sim_getR flX11_19 rfl rfl dX11_line_163 ?_
      refine sim_getR flX11_133 rfl rfl dX11_line_166 ?_
      refine sim_getR flX11_185 rfl rfl dX11_line_169 ?_
      refine sim_iload_n 1 rfl dX11_line_172 ?_
      refine sim_cS (As := [.ref 11, .int p1]) (st := []) (r := (some (.int (fX11_at 11 p1 h)))) (h1 := h) (okX11_at 11 rfl p1 h) (fun _ => rfl) mlX11_164 mtX11_at rfl (Nat.le_of_ble_eq_true rfl) rfl (Nat.le_of_ble_eq_true rfl) dX11_line_173 ?_
      exact sim_iret rfl rfl dX11_line_176
    refine sim_case (v := 7) (tgt := 177) (7) dX11_line_17 (by decide) (by decide) (by decide) rfl (by decide) ?_ (fun c11 => ?_)
    · refine sim_aload_n 0 rfl dX11_line_177 ?_
      refine sim_getR flX11_19 rfl rfl dX11_line_178 ?_
      refine sim_getR flX11_133 rfl rfl dX11_line_181 ?_
      refine sim_getR flX11_188 rfl rfl dX11_line_184 ?_
      refine sim_iload_n 1 rfl dX11_line_187 ?_
      refine sim_cS (As := [.ref 12, .int p1]) (st := []) (r := (some (.int (fX11_at 12 p1 h)))) (h1 := h) (okX11_at 12 rfl p1 h) (fun _ => rfl) mlX11_164 mtX11_at rfl (Nat.le_of_ble_eq_true rfl) rfl (Nat.le_of_ble_eq_true rfl) dX11_line_188 ?_
      exact sim_iret rfl rfl dX11_line_191
    refine sim_case (v := 8) (tgt := 192) (8) dX11_line_17 (by decide) (by decide) (by decide) rfl (by decide) ?_ (fun c12 => ?_)
    · refine sim_aload_n 0 rfl dX11_line_192 ?_
      refine sim_getR flX11_19 rfl rfl dX11_line_193 ?_
      refine sim_iload_n 1 rfl dX11_line_196 ?_
      refine sim_cV (As := [.int p1]) (st := []) (r := (some (.int (fX9_isWrong p1 h)))) (h1 := h) (okX9_isWrong p1 h) (fun _ => rfl) mlX11_191 mtX9_isWrong rfl rfl rfl rfl (Nat.le_of_ble_eq_true rfl) rfl (Nat.le_of_ble_eq_true rfl) dX11_line_197 ?_
      refine sim_if_eq (tgt := 207) dX11_line_200 (by decide) (fun c13 => ?_) (fun c13 => ?_)
      · refine sim_iconst (v := 0) (by decide) dX11_line_207 ?_
        exact sim_iret rfl rfl dX11_line_208
      · refine sim_iconst (v := 1) (by decide) dX11_line_203 ?_
        refine sim_goto (tgt := 208) dX11_line_204 (by decide) ?_
        exact sim_iret rfl rfl dX11_line_208
    refine sim_dflt (tgt := 209) dX11_line_17 (by omega) (by decide) ?_
    refine sim_iconst (v := -1) (by decide) dX11_line_209 ?_
    exact sim_iret rfl rfl dX11_line_210
  · refine sim_iconst (v := -1) (by decide) dX11_line_14 ?_
    exact sim_iret rfl rfl dX11_line_15
theorem okX11_line (p1 : Int32) (p2 : Int32) (h : AH) (b : Int32 × AH) (e : fX11_line p1 p2 h = some b) : Ok yX11_line cX11_line 3 (some .int) 5 [.ref 0, .int p1, .int p2] h (some (.int b.1), b.2) := ok_of (sX11_line p1 p2 h) (by rw [e]; rfl) (by decide +kernel) (Nat.le_of_ble_eq_true rfl)
def fX9_wrongLines_l4b (rec : Int32 → Int32 → Option Int32) (h : AH) (x1 : Int32) (x2 : Int32) : Option Int32 :=
  if x2 < (h.1 6 0) then
    if (fX9_isWrong x2 h) = 0 then
      rec x1 (x2 + 1)
    else
      letT (x1 ||| (fX11_bit x2 h)) (fun v3 =>
      rec v3 (x2 + 1))
  else
    some x1
def fX9_wrongLines_l4 (h : AH) : Nat → Int32 → Int32 → Option Int32
  | 0, _, _ => none
  | n + 1, x1, x2 => fX9_wrongLines_l4b (fX9_wrongLines_l4 h n) h x1 x2
theorem sX9_wrongLines_l4b {rec : Int32 → Int32 → Option Int32} {h : AH} (hR : ∀ (x1 : Int32) (x2 : Int32), Sim RX9 cX9_wrongLines 3 (some .int) 5 (Option.map (pI h)) (rec x1 x2) 4 [(0, .ref 3), (1, .int x1), (2, .int x2)] [] h) : ∀ (x1 : Int32) (x2 : Int32), Sim RX9 cX9_wrongLines 3 (some .int) 5 (Option.map (pI h)) (fX9_wrongLines_l4b rec h x1 x2) 4 [(0, .ref 3), (1, .int x1), (2, .int x2)] [] h := by
  intro x1 x2
  unfold fX9_wrongLines_l4b
  refine sim_iload_n 2 rfl dX9_wrongLines_4 ?_
  refine sim_aload_n 0 rfl dX9_wrongLines_5 ?_
  refine sim_getR flX9_28 rfl rfl dX9_wrongLines_6 ?_
  refine sim_getI flX9_72 rfl rfl dX9_wrongLines_9 ?_
  refine sim_icmp_ge (tgt := 36) dX9_wrongLines_12 (by decide) (fun c1 => ?_) (fun c1 => ?_)
  · refine sim_iload_n 1 rfl dX9_wrongLines_36 ?_
    exact sim_iret rfl rfl dX9_wrongLines_37
  · refine sim_aload_n 0 rfl dX9_wrongLines_15 ?_
    refine sim_iload_n 2 rfl dX9_wrongLines_16 ?_
    refine sim_cV (As := [.int x2]) (st := []) (r := (some (.int (fX9_isWrong x2 h)))) (h1 := h) (okX9_isWrong x2 h) (fun _ => rfl) mlX9_86 mtX9_isWrong rfl rfl rfl rfl (Nat.le_of_ble_eq_true rfl) rfl (Nat.le_of_ble_eq_true rfl) dX9_wrongLines_17 ?_
    refine sim_if_eq (tgt := 30) dX9_wrongLines_20 (by decide) (fun c2 => ?_) (fun c2 => ?_)
    · refine sim_iinc (v := x2 + 1) (L' := [(2, .int (x2 + 1)), (0, .ref 3), (1, .int x1)]) 2 rfl rfl rfl (by decide) dX9_wrongLines_30 ?_
      refine sim_goto (tgt := 4) dX9_wrongLines_33 (by decide) ?_
      refine sim_sub [1, 2, 0] rfl ?_
      exact hR x1 (x2 + 1)
    · refine sim_iload_n 1 rfl dX9_wrongLines_23 ?_
      refine sim_iload_n 2 rfl dX9_wrongLines_24 ?_
      refine sim_cS (As := [.int x2]) (st := [.int x1]) (r := (some (.int (fX11_bit x2 h)))) (h1 := h) (okX11_bit x2 h) (fun _ => rfl) mlX9_90 mtX11_bit rfl (Nat.le_of_ble_eq_true rfl) rfl (Nat.le_of_ble_eq_true rfl) dX9_wrongLines_25 ?_
      refine sim_ior dX9_wrongLines_28 ?_
      refine sim_nmI (fun v3 => ?_)
      refine sim_istore_n (L' := [(1, .int v3), (0, .ref 3), (2, .int x2)]) rfl (by decide) dX9_wrongLines_29 ?_
      refine sim_iinc (v := x2 + 1) (L' := [(2, .int (x2 + 1)), (1, .int v3), (0, .ref 3)]) 2 rfl rfl rfl (by decide) dX9_wrongLines_30 ?_
      refine sim_goto (tgt := 4) dX9_wrongLines_33 (by decide) ?_
      refine sim_sub [2, 1, 0] rfl ?_
      exact hR v3 (x2 + 1)
theorem sX9_wrongLines_l4 {h : AH} : ∀ (n : Nat) (x1 : Int32) (x2 : Int32), Sim RX9 cX9_wrongLines 3 (some .int) 5 (Option.map (pI h)) (fX9_wrongLines_l4 h n x1 x2) 4 [(0, .ref 3), (1, .int x1), (2, .int x2)] [] h := by
  intro n
  induction n with
  | zero => intro x1 x2; exact sim_none
  | succ n ih => intro x1 x2; exact sX9_wrongLines_l4b ih x1 x2
def fX9_wrongLines (h : AH) : Option Int32 :=
  fX9_wrongLines_l4 h fuel0 (0 : Int32) (0 : Int32)
theorem sX9_wrongLines (h : AH) : Sim RX9 cX9_wrongLines 3 (some .int) 5 (Option.map (pI h)) (fX9_wrongLines h) 0 [(0, .ref 3)] [] h := by
  unfold fX9_wrongLines
  refine sim_iconst (v := 0) (by decide) dX9_wrongLines_0 ?_
  refine sim_istore_n (L' := [(1, .int (0 : Int32)), (0, .ref 3)]) rfl (by decide) dX9_wrongLines_1 ?_
  refine sim_iconst (v := 0) (by decide) dX9_wrongLines_2 ?_
  refine sim_istore_n (L' := [(2, .int (0 : Int32)), (1, .int (0 : Int32)), (0, .ref 3)]) rfl (by decide) dX9_wrongLines_3 ?_
  refine sim_sub [2, 1, 0] rfl ?_
  refine sX9_wrongLines_l4 _ (0 : Int32) (0 : Int32)
theorem okX9_wrongLines (h : AH) (b : Int32) (e : fX9_wrongLines h = some b) : Ok yX9_wrongLines cX9_wrongLines 3 (some .int) 5 [.ref 3] h (some (.int b), h) := ok_of (sX9_wrongLines h) (by rw [e]; rfl) (by decide +kernel) (Nat.le_of_ble_eq_true rfl)
def fX11_wrong (h : AH) : Option Int32 :=
  (fX9_wrongLines h).bind (fun b1 =>
  some b1)
theorem sX11_wrong (h : AH) : Sim RX11 cX11_wrong 1 (some .int) 6 (Option.map (pI h)) (fX11_wrong h) 0 [(0, .ref 0)] [] h := by
  unfold fX11_wrong
  refine sim_aload_n 0 rfl dX11_wrong_0 ?_
  refine sim_getR flX11_19 rfl rfl dX11_wrong_1 ?_
  refine sim_bind (fun b1 e2 => ?_)
  refine sim_cV (As := []) (st := []) (r := (some (.int b1))) (h1 := h) (okX9_wrongLines h b1 e2) (fun _ => rfl) mlX11_194 mtX9_wrongLines rfl rfl rfl rfl (Nat.le_of_ble_eq_true rfl) rfl (Nat.le_of_ble_eq_true rfl) dX11_wrong_4 ?_
  exact sim_iret rfl rfl dX11_wrong_7
theorem okX11_wrong (h : AH) (b : Int32) (e : fX11_wrong h = some b) : Ok yX11_wrong cX11_wrong 1 (some .int) 6 [.ref 0] h (some (.int b), h) := ok_of (sX11_wrong h) (by rw [e]; rfl) (by decide +kernel) (Nat.le_of_ble_eq_true rfl)
def fX11_differing_l5b (a0 : Nat) (a1 : Nat) (rec : Int32 → Int32 → Option Int32) (x2 : Int32) (h : AH) (x3 : Int32) (x4 : Int32) : Option Int32 :=
  if x4 < x2 then
    if (fX11_at a0 x4 h) = (fX11_at a1 x4 h) then
      rec x3 (x4 + 1)
    else
      letT (x3 ||| (fX11_bit x4 h)) (fun v3 =>
      rec v3 (x4 + 1))
  else
    some x3
def fX11_differing_l5 (a0 : Nat) (a1 : Nat) (x2 : Int32) (h : AH) : Nat → Int32 → Int32 → Option Int32
  | 0, _, _ => none
  | n + 1, x3, x4 => fX11_differing_l5b a0 a1 (fX11_differing_l5 a0 a1 x2 h n) x2 h x3 x4
theorem sX11_differing_l5b (a0 : Nat) (a1 : Nat) (ia0 : isA a0) (ia1 : isA a1) {rec : Int32 → Int32 → Option Int32} {x2 : Int32} {h : AH} (hR : ∀ (x3 : Int32) (x4 : Int32), Sim RX11 cX11_differing 5 (some .int) 2 (Option.map (pI h)) (rec x3 x4) 5 [(0, .ref a0), (1, .ref a1), (2, .int x2), (3, .int x3), (4, .int x4)] [] h) : ∀ (x3 : Int32) (x4 : Int32), Sim RX11 cX11_differing 5 (some .int) 2 (Option.map (pI h)) (fX11_differing_l5b a0 a1 rec x2 h x3 x4) 5 [(0, .ref a0), (1, .ref a1), (2, .int x2), (3, .int x3), (4, .int x4)] [] h := by
  intro x3 x4
  unfold fX11_differing_l5b
  refine sim_iload 4 rfl dX11_differing_5 ?_
  refine sim_iload_n 2 rfl dX11_differing_7 ?_
  refine sim_icmp_ge (tgt := 40) dX11_differing_8 (by decide) (fun c1 => ?_) (fun c1 => ?_)
  · refine sim_iload_n 3 rfl dX11_differing_40 ?_
    exact sim_iret rfl rfl dX11_differing_41
  · refine sim_aload_n 0 rfl dX11_differing_11 ?_
    refine sim_iload 4 rfl dX11_differing_12 ?_
    refine sim_cS (As := [.ref a0, .int x4]) (st := []) (r := (some (.int (fX11_at a0 x4 h)))) (h1 := h) (okX11_at a0 ia0 x4 h) (fun _ => rfl) mlX11_164 mtX11_at rfl (Nat.le_of_ble_eq_true rfl) rfl (Nat.le_of_ble_eq_true rfl) dX11_differing_14 ?_
    refine sim_aload_n 1 rfl dX11_differing_17 ?_
    refine sim_iload 4 rfl dX11_differing_18 ?_
    refine sim_cS (As := [.ref a1, .int x4]) (st := [.int (fX11_at a0 x4 h)]) (r := (some (.int (fX11_at a1 x4 h)))) (h1 := h) (okX11_at a1 ia1 x4 h) (fun _ => rfl) mlX11_164 mtX11_at rfl (Nat.le_of_ble_eq_true rfl) rfl (Nat.le_of_ble_eq_true rfl) dX11_differing_20 ?_
    refine sim_icmp_eq (tgt := 34) dX11_differing_23 (by decide) (fun c2 => ?_) (fun c2 => ?_)
    · refine sim_iinc (v := x4 + 1) (L' := [(4, .int (x4 + 1)), (0, .ref a0), (1, .ref a1), (2, .int x2), (3, .int x3)]) 4 rfl rfl rfl (by decide) dX11_differing_34 ?_
      refine sim_goto (tgt := 5) dX11_differing_37 (by decide) ?_
      refine sim_sub [1, 2, 3, 4, 0] rfl ?_
      exact hR x3 (x4 + 1)
    · refine sim_iload_n 3 rfl dX11_differing_26 ?_
      refine sim_iload 4 rfl dX11_differing_27 ?_
      refine sim_cS (As := [.int x4]) (st := [.int x3]) (r := (some (.int (fX11_bit x4 h)))) (h1 := h) (okX11_bit x4 h) (fun _ => rfl) mlX11_229 mtX11_bit rfl (Nat.le_of_ble_eq_true rfl) rfl (Nat.le_of_ble_eq_true rfl) dX11_differing_29 ?_
      refine sim_ior dX11_differing_32 ?_
      refine sim_nmI (fun v3 => ?_)
      refine sim_istore_n (L' := [(3, .int v3), (0, .ref a0), (1, .ref a1), (2, .int x2), (4, .int x4)]) rfl (by decide) dX11_differing_33 ?_
      refine sim_iinc (v := x4 + 1) (L' := [(4, .int (x4 + 1)), (3, .int v3), (0, .ref a0), (1, .ref a1), (2, .int x2)]) 4 rfl rfl rfl (by decide) dX11_differing_34 ?_
      refine sim_goto (tgt := 5) dX11_differing_37 (by decide) ?_
      refine sim_sub [2, 3, 4, 1, 0] rfl ?_
      exact hR v3 (x4 + 1)
theorem sX11_differing_l5 (a0 : Nat) (a1 : Nat) (ia0 : isA a0) (ia1 : isA a1) {x2 : Int32} {h : AH} : ∀ (n : Nat) (x3 : Int32) (x4 : Int32), Sim RX11 cX11_differing 5 (some .int) 2 (Option.map (pI h)) (fX11_differing_l5 a0 a1 x2 h n x3 x4) 5 [(0, .ref a0), (1, .ref a1), (2, .int x2), (3, .int x3), (4, .int x4)] [] h := by
  intro n
  induction n with
  | zero => intro x3 x4; exact sim_none
  | succ n ih => intro x3 x4; exact sX11_differing_l5b a0 a1 ia0 ia1 ih x3 x4
def fX11_differing (a0 : Nat) (a1 : Nat) (p2 : Int32) (h : AH) : Option Int32 :=
  fX11_differing_l5 a0 a1 p2 h fuel0 (0 : Int32) (0 : Int32)
theorem sX11_differing (a0 : Nat) (a1 : Nat) (ia0 : isA a0) (ia1 : isA a1) (p2 : Int32) (h : AH) : Sim RX11 cX11_differing 5 (some .int) 2 (Option.map (pI h)) (fX11_differing a0 a1 p2 h) 0 [(0, .ref a0), (1, .ref a1), (2, .int p2)] [] h := by
  unfold fX11_differing
  refine sim_iconst (v := 0) (by decide) dX11_differing_0 ?_
  refine sim_istore_n (L' := [(3, .int (0 : Int32)), (0, .ref a0), (1, .ref a1), (2, .int p2)]) rfl (by decide) dX11_differing_1 ?_
  refine sim_iconst (v := 0) (by decide) dX11_differing_2 ?_
  refine sim_istore (L' := [(4, .int (0 : Int32)), (3, .int (0 : Int32)), (0, .ref a0), (1, .ref a1), (2, .int p2)]) rfl (by decide) dX11_differing_3 ?_
  refine sim_sub [2, 3, 4, 1, 0] rfl ?_
  refine sX11_differing_l5 a0 a1 ia0 ia1 _ (0 : Int32) (0 : Int32)
theorem okX11_differing (a0 : Nat) (ia0 : isA a0) (a1 : Nat) (ia1 : isA a1) (p2 : Int32) (h : AH) (b : Int32) (e : fX11_differing a0 a1 p2 h = some b) : Ok yX11_differing cX11_differing 5 (some .int) 2 [.ref a0, .ref a1, .int p2] h (some (.int b), h) := ok_of (sX11_differing a0 a1 ia0 ia1 p2 h) (by rw [e]; rfl) (by decide +kernel) (Nat.le_of_ble_eq_true rfl)
def fX11_untrue (h : AH) : Option (Int32 × AH) :=
  (fX9_workOn (0 : Int32) 49 h).bind (fun b1 =>
  (fX11_differing 7 49 (b1.1 6 0) b1).bind (fun b3 =>
  some (b3, b1)))
theorem sX11_untrue (h : AH) : Sim RX11 cX11_untrue 1 (some .int) 5 (Option.map oI) (fX11_untrue h) 0 [(0, .ref 0)] [] h := by
  unfold fX11_untrue
  refine sim_aload_n 0 rfl dX11_untrue_0 ?_
  refine sim_getR flX11_19 rfl rfl dX11_untrue_1 ?_
  refine sim_iconst (v := 0) (by decide) dX11_untrue_4 ?_
  refine sim_aload_n 0 rfl dX11_untrue_5 ?_
  refine sim_getR flX11_53 rfl rfl dX11_untrue_6 ?_
  refine sim_bind (fun b1 e2 => ?_)
  refine sim_cV (As := [.int (0 : Int32), .ref 49]) (st := []) (r := none) (h1 := b1) (okX9_workOn (0 : Int32) 49 rfl h b1 e2) (fun _ => rfl) mlX11_174 mtX9_workOn rfl rfl rfl rfl (Nat.le_of_ble_eq_true rfl) rfl (Nat.le_of_ble_eq_true rfl) dX11_untrue_9 ?_
  refine sim_aload_n 0 rfl dX11_untrue_12 ?_
  refine sim_getR flX11_19 rfl rfl dX11_untrue_13 ?_
  refine sim_getR flX11_133 rfl rfl dX11_untrue_16 ?_
  refine sim_getR flX11_178 rfl rfl dX11_untrue_19 ?_
  refine sim_aload_n 0 rfl dX11_untrue_22 ?_
  refine sim_getR flX11_53 rfl rfl dX11_untrue_23 ?_
  refine sim_aload_n 0 rfl dX11_untrue_26 ?_
  refine sim_getR flX11_19 rfl rfl dX11_untrue_27 ?_
  refine sim_getR flX11_133 rfl rfl dX11_untrue_30 ?_
  refine sim_getI flX11_198 rfl rfl dX11_untrue_33 ?_
  refine sim_bind (fun b3 e4 => ?_)
  refine sim_cS (As := [.ref 7, .ref 49, .int (b1.1 6 0)]) (st := []) (r := (some (.int b3))) (h1 := b1) (okX11_differing 7 rfl 49 rfl (b1.1 6 0) b1 b3 e4) (fun _ => rfl) mlX11_199 mtX11_differing rfl (Nat.le_of_ble_eq_true rfl) rfl (Nat.le_of_ble_eq_true rfl) dX11_untrue_36 ?_
  exact sim_iret rfl rfl dX11_untrue_39
theorem okX11_untrue (h : AH) (b : Int32 × AH) (e : fX11_untrue h = some b) : Ok yX11_untrue cX11_untrue 1 (some .int) 5 [.ref 0] h (some (.int b.1), b.2) := ok_of (sX11_untrue h) (by rw [e]; rfl) (by decide +kernel) (Nat.le_of_ble_eq_true rfl)
def fX9_slipIn (p1 : Int32) (p2 : Int32) (a3 : Nat) (h : AH) : Option AH :=
  letT (fX11_put a3 p1 p2 h) (fun g1 =>
  (fX9_workOn (p1 + (1 : Int32)) a3 g1).bind (fun b2 =>
  some b2))
theorem sX9_slipIn (a3 : Nat) (ia3 : isA a3) (p1 : Int32) (p2 : Int32) (h : AH) : Sim RX9 cX9_slipIn 4 none 5 (Option.map oV) (fX9_slipIn p1 p2 a3 h) 0 [(0, .ref 3), (1, .int p1), (2, .int p2), (3, .ref a3)] [] h := by
  unfold fX9_slipIn
  refine sim_aload_n 3 rfl dX9_slipIn_0 ?_
  refine sim_iload_n 1 rfl dX9_slipIn_1 ?_
  refine sim_iload_n 2 rfl dX9_slipIn_2 ?_
  refine sim_cS (As := [.ref a3, .int p1, .int p2]) (st := []) (r := none) (h1 := (fX11_put a3 p1 p2 h)) (okX11_put a3 ia3 p1 p2 h) (fun _ => rfl) mlX9_51 mtX11_put rfl (Nat.le_of_ble_eq_true rfl) rfl (Nat.le_of_ble_eq_true rfl) dX9_slipIn_3 ?_
  refine sim_nmH (fun g1 => ?_)
  refine sim_aload_n 0 rfl dX9_slipIn_6 ?_
  refine sim_iload_n 1 rfl dX9_slipIn_7 ?_
  refine sim_iconst (v := 1) (by decide) dX9_slipIn_8 ?_
  refine sim_iadd dX9_slipIn_9 ?_
  refine sim_aload_n 3 rfl dX9_slipIn_10 ?_
  refine sim_bind (fun b2 e3 => ?_)
  refine sim_cV (As := [.int (p1 + (1 : Int32)), .ref a3]) (st := []) (r := none) (h1 := b2) (okX9_workOn (p1 + (1 : Int32)) a3 ia3 g1 b2 e3) (fun _ => rfl) mlX9_79 mtX9_workOn rfl rfl rfl rfl (Nat.le_of_ble_eq_true rfl) rfl (Nat.le_of_ble_eq_true rfl) dX9_slipIn_11 ?_
  exact sim_vret rfl rfl dX9_slipIn_14
theorem okX9_slipIn (p1 : Int32) (p2 : Int32) (a3 : Nat) (ia3 : isA a3) (h : AH) (b : AH) (e : fX9_slipIn p1 p2 a3 h = some b) : Ok yX9_slipIn cX9_slipIn 4 none 5 [.ref 3, .int p1, .int p2, .ref a3] h (none, b) := ok_of (sX9_slipIn a3 ia3 p1 p2 h) (by rw [e]; rfl) (by decide +kernel) (Nat.le_of_ble_eq_true rfl)
def fX6_last (h : AH) : Int32 :=
  (h.1 6 0) - (1 : Int32)
theorem sX6_last (h : AH) : Sim RX6 cX6_last 1 (some .int) 1 (tI h) (fX6_last h) 0 [(0, .ref 6)] [] h := by
  unfold fX6_last
  refine sim_aload_n 0 rfl dX6_last_0 ?_
  refine sim_getI flX6_9 rfl rfl dX6_last_1 ?_
  refine sim_iconst (v := 1) (by decide) dX6_last_4 ?_
  refine sim_isub dX6_last_5 ?_
  exact sim_iret rfl rfl dX6_last_6
theorem okX6_last (h : AH) : Ok yX6_last cX6_last 1 (some .int) 1 [.ref 6] h (some (.int (fX6_last h)), h) := ok_of (sX6_last h) rfl (by decide +kernel) (Nat.le_of_ble_eq_true rfl)
def fX11_slip (p1 : Int32) (p2 : Int32) (h : AH) : Option (Int32 × AH) :=
  if (fX6_holds p1 h) = 0 then
    some ((-1 : Int32), h)
  else
    if (fX9_isClaim p2 h) = 0 then
      some ((-1 : Int32), h)
    else
      (fX11_copyRow 7 50 h).bind (fun b3 =>
      (fX9_slipIn p1 p2 50 b3).bind (fun b5 =>
      some (fX11_at 50 (fX6_last b5) b5, b5)))
theorem sX11_slip (p1 : Int32) (p2 : Int32) (h : AH) : Sim RX11 cX11_slip 3 (some .int) 6 (Option.map oI) (fX11_slip p1 p2 h) 0 [(0, .ref 0), (1, .int p1), (2, .int p2)] [] h := by
  unfold fX11_slip
  refine sim_aload_n 0 rfl dX11_slip_0 ?_
  refine sim_getR flX11_19 rfl rfl dX11_slip_1 ?_
  refine sim_getR flX11_133 rfl rfl dX11_slip_4 ?_
  refine sim_iload_n 1 rfl dX11_slip_7 ?_
  refine sim_cV (As := [.int p1]) (st := []) (r := (some (.int (fX6_holds p1 h)))) (h1 := h) (okX6_holds p1 h) (fun _ => rfl) mlX11_155 mtX6_holds rfl rfl rfl rfl (Nat.le_of_ble_eq_true rfl) rfl (Nat.le_of_ble_eq_true rfl) dX11_slip_8 ?_
  refine sim_if_eq (tgt := 25) dX11_slip_11 (by decide) (fun c1 => ?_) (fun c1 => ?_)
  · refine sim_iconst (v := -1) (by decide) dX11_slip_25 ?_
    exact sim_iret rfl rfl dX11_slip_26
  · refine sim_aload_n 0 rfl dX11_slip_14 ?_
    refine sim_getR flX11_19 rfl rfl dX11_slip_15 ?_
    refine sim_iload_n 2 rfl dX11_slip_18 ?_
    refine sim_cV (As := [.int p2]) (st := []) (r := (some (.int (fX9_isClaim p2 h)))) (h1 := h) (okX9_isClaim p2 h) (fun _ => rfl) mlX11_105 mtX9_isClaim rfl rfl rfl rfl (Nat.le_of_ble_eq_true rfl) rfl (Nat.le_of_ble_eq_true rfl) dX11_slip_19 ?_
    refine sim_if_ne (tgt := 27) dX11_slip_22 (by decide) (fun c2 => ?_) (fun c2 => ?_)
    · refine sim_aload_n 0 rfl dX11_slip_27 ?_
      refine sim_getR flX11_19 rfl rfl dX11_slip_28 ?_
      refine sim_getR flX11_133 rfl rfl dX11_slip_31 ?_
      refine sim_getR flX11_178 rfl rfl dX11_slip_34 ?_
      refine sim_aload_n 0 rfl dX11_slip_37 ?_
      refine sim_getR flX11_57 rfl rfl dX11_slip_38 ?_
      refine sim_bind (fun b3 e4 => ?_)
      refine sim_cS (As := [.ref 7, .ref 50]) (st := []) (r := none) (h1 := b3) (okX11_copyRow 7 rfl 50 rfl h b3 e4) (fun _ => rfl) mlX11_203 mtX11_copyRow rfl (Nat.le_of_ble_eq_true rfl) rfl (Nat.le_of_ble_eq_true rfl) dX11_slip_41 ?_
      refine sim_aload_n 0 rfl dX11_slip_44 ?_
      refine sim_getR flX11_19 rfl rfl dX11_slip_45 ?_
      refine sim_iload_n 1 rfl dX11_slip_48 ?_
      refine sim_iload_n 2 rfl dX11_slip_49 ?_
      refine sim_aload_n 0 rfl dX11_slip_50 ?_
      refine sim_getR flX11_57 rfl rfl dX11_slip_51 ?_
      refine sim_bind (fun b5 e6 => ?_)
      refine sim_cV (As := [.int p1, .int p2, .ref 50]) (st := []) (r := none) (h1 := b5) (okX9_slipIn p1 p2 50 rfl b3 b5 e6) (fun _ => rfl) mlX11_207 mtX9_slipIn rfl rfl rfl rfl (Nat.le_of_ble_eq_true rfl) rfl (Nat.le_of_ble_eq_true rfl) dX11_slip_54 ?_
      refine sim_aload_n 0 rfl dX11_slip_57 ?_
      refine sim_getR flX11_57 rfl rfl dX11_slip_58 ?_
      refine sim_aload_n 0 rfl dX11_slip_61 ?_
      refine sim_getR flX11_19 rfl rfl dX11_slip_62 ?_
      refine sim_getR flX11_133 rfl rfl dX11_slip_65 ?_
      refine sim_cV (As := []) (st := [.ref 50]) (r := (some (.int (fX6_last b5)))) (h1 := b5) (okX6_last b5) (fun _ => rfl) mlX11_211 mtX6_last rfl rfl rfl rfl (Nat.le_of_ble_eq_true rfl) rfl (Nat.le_of_ble_eq_true rfl) dX11_slip_68 ?_
      refine sim_cS (As := [.ref 50, .int (fX6_last b5)]) (st := []) (r := (some (.int (fX11_at 50 (fX6_last b5) b5)))) (h1 := b5) (okX11_at 50 rfl (fX6_last b5) b5) (fun _ => rfl) mlX11_164 mtX11_at rfl (Nat.le_of_ble_eq_true rfl) rfl (Nat.le_of_ble_eq_true rfl) dX11_slip_71 ?_
      exact sim_iret rfl rfl dX11_slip_74
    · refine sim_iconst (v := -1) (by decide) dX11_slip_25 ?_
      exact sim_iret rfl rfl dX11_slip_26
theorem okX11_slip (p1 : Int32) (p2 : Int32) (h : AH) (b : Int32 × AH) (e : fX11_slip p1 p2 h = some b) : Ok yX11_slip cX11_slip 3 (some .int) 6 [.ref 0, .int p1, .int p2] h (some (.int b.1), b.2) := ok_of (sX11_slip p1 p2 h) (by rw [e]; rfl) (by decide +kernel) (Nat.le_of_ble_eq_true rfl)
def fJ6_bitCount_0f7a4 (p0 : Int32) (h : AH) : Int32 :=
  letT (p0 - ((jushr p0 (1 : Int32)) &&& (1431655765 : Int32))) (fun v1 =>
  letT ((v1 &&& (858993459 : Int32)) + ((jushr v1 (2 : Int32)) &&& (858993459 : Int32))) (fun v2 =>
  letT ((v2 + (jushr v2 (4 : Int32))) &&& (252645135 : Int32)) (fun v3 =>
  letT (v3 + (jushr v3 (8 : Int32))) (fun v4 =>
  letT (v4 + (jushr v4 (16 : Int32))) (fun v5 =>
  v5 &&& (63 : Int32))))))
theorem sJ6_bitCount_0f7a4 (p0 : Int32) (h : AH) : Sim RJ6 cJ6_bitCount_0f7a4 1 (some .int) 1 (tI h) (fJ6_bitCount_0f7a4 p0 h) 0 [(0, .int p0)] [] h := by
  unfold fJ6_bitCount_0f7a4
  refine sim_iload_n 0 rfl dJ6_bitCount_0f7a4_0 ?_
  refine sim_iload_n 0 rfl dJ6_bitCount_0f7a4_1 ?_
  refine sim_iconst (v := 1) (by decide) dJ6_bitCount_0f7a4_2 ?_
  refine sim_iushr dJ6_bitCount_0f7a4_3 ?_
  refine sim_ldcw kcJ6_265 dJ6_bitCount_0f7a4_4 ?_
  refine sim_iand dJ6_bitCount_0f7a4_7 ?_
  refine sim_isub dJ6_bitCount_0f7a4_8 ?_
  refine sim_nmI (fun v1 => ?_)
  refine sim_istore_n (L' := [(0, .int v1)]) rfl (by decide) dJ6_bitCount_0f7a4_9 ?_
  refine sim_iload_n 0 rfl dJ6_bitCount_0f7a4_10 ?_
  refine sim_ldcw kcJ6_266 dJ6_bitCount_0f7a4_11 ?_
  refine sim_iand dJ6_bitCount_0f7a4_14 ?_
  refine sim_iload_n 0 rfl dJ6_bitCount_0f7a4_15 ?_
  refine sim_iconst (v := 2) (by decide) dJ6_bitCount_0f7a4_16 ?_
  refine sim_iushr dJ6_bitCount_0f7a4_17 ?_
  refine sim_ldcw kcJ6_266 dJ6_bitCount_0f7a4_18 ?_
  refine sim_iand dJ6_bitCount_0f7a4_21 ?_
  refine sim_iadd dJ6_bitCount_0f7a4_22 ?_
  refine sim_nmI (fun v2 => ?_)
  refine sim_istore_n (L' := [(0, .int v2)]) rfl (by decide) dJ6_bitCount_0f7a4_23 ?_
  refine sim_iload_n 0 rfl dJ6_bitCount_0f7a4_24 ?_
  refine sim_iload_n 0 rfl dJ6_bitCount_0f7a4_25 ?_
  refine sim_iconst (v := 4) (by decide) dJ6_bitCount_0f7a4_26 ?_
  refine sim_iushr dJ6_bitCount_0f7a4_27 ?_
  refine sim_iadd dJ6_bitCount_0f7a4_28 ?_
  refine sim_ldcw kcJ6_267 dJ6_bitCount_0f7a4_29 ?_
  refine sim_iand dJ6_bitCount_0f7a4_32 ?_
  refine sim_nmI (fun v3 => ?_)
  refine sim_istore_n (L' := [(0, .int v3)]) rfl (by decide) dJ6_bitCount_0f7a4_33 ?_
  refine sim_iload_n 0 rfl dJ6_bitCount_0f7a4_34 ?_
  refine sim_iload_n 0 rfl dJ6_bitCount_0f7a4_35 ?_
  refine sim_bipush (v := 8) (by decide) dJ6_bitCount_0f7a4_36 ?_
  refine sim_iushr dJ6_bitCount_0f7a4_38 ?_
  refine sim_iadd dJ6_bitCount_0f7a4_39 ?_
  refine sim_nmI (fun v4 => ?_)
  refine sim_istore_n (L' := [(0, .int v4)]) rfl (by decide) dJ6_bitCount_0f7a4_40 ?_
  refine sim_iload_n 0 rfl dJ6_bitCount_0f7a4_41 ?_
  refine sim_iload_n 0 rfl dJ6_bitCount_0f7a4_42 ?_
  refine sim_bipush (v := 16) (by decide) dJ6_bitCount_0f7a4_43 ?_
  refine sim_iushr dJ6_bitCount_0f7a4_45 ?_
  refine sim_iadd dJ6_bitCount_0f7a4_46 ?_
  refine sim_nmI (fun v5 => ?_)
  refine sim_istore_n (L' := [(0, .int v5)]) rfl (by decide) dJ6_bitCount_0f7a4_47 ?_
  refine sim_iload_n 0 rfl dJ6_bitCount_0f7a4_48 ?_
  refine sim_bipush (v := 63) (by decide) dJ6_bitCount_0f7a4_49 ?_
  refine sim_iand dJ6_bitCount_0f7a4_51 ?_
  exact sim_iret rfl rfl dJ6_bitCount_0f7a4_52
theorem okJ6_bitCount_0f7a4 (p0 : Int32) (h : AH) : Ok yJ6_bitCount_0f7a4 cJ6_bitCount_0f7a4 1 (some .int) 1 [.int p0] h (some (.int (fJ6_bitCount_0f7a4 p0 h)), h) := ok_of (sJ6_bitCount_0f7a4 p0 h) rfl (by decide +kernel) (Nat.le_of_ble_eq_true rfl)
def fX11_honest (h : AH) : Option (Int32 × AH) :=
  (fX9_workOn (0 : Int32) 49 h).bind (fun b1 =>
  (fX11_differing 7 49 (b1.1 6 0) b1).bind (fun b3 =>
  (fX11_copyRow 49 7 b1).bind (fun b5 =>
  some (fJ6_bitCount_0f7a4 b3 b5, b5))))
theorem sX11_honest (h : AH) : Sim RX11 cX11_honest 2 (some .int) 5 (Option.map oI) (fX11_honest h) 0 [(0, .ref 0)] [] h := by
  unfold fX11_honest
  refine sim_aload_n 0 rfl dX11_honest_0 ?_
  refine sim_getR flX11_19 rfl rfl dX11_honest_1 ?_
  refine sim_iconst (v := 0) (by decide) dX11_honest_4 ?_
  refine sim_aload_n 0 rfl dX11_honest_5 ?_
  refine sim_getR flX11_53 rfl rfl dX11_honest_6 ?_
  refine sim_bind (fun b1 e2 => ?_)
  refine sim_cV (As := [.int (0 : Int32), .ref 49]) (st := []) (r := none) (h1 := b1) (okX9_workOn (0 : Int32) 49 rfl h b1 e2) (fun _ => rfl) mlX11_174 mtX9_workOn rfl rfl rfl rfl (Nat.le_of_ble_eq_true rfl) rfl (Nat.le_of_ble_eq_true rfl) dX11_honest_9 ?_
  refine sim_aload_n 0 rfl dX11_honest_12 ?_
  refine sim_getR flX11_19 rfl rfl dX11_honest_13 ?_
  refine sim_getR flX11_133 rfl rfl dX11_honest_16 ?_
  refine sim_getR flX11_178 rfl rfl dX11_honest_19 ?_
  refine sim_aload_n 0 rfl dX11_honest_22 ?_
  refine sim_getR flX11_53 rfl rfl dX11_honest_23 ?_
  refine sim_aload_n 0 rfl dX11_honest_26 ?_
  refine sim_getR flX11_19 rfl rfl dX11_honest_27 ?_
  refine sim_getR flX11_133 rfl rfl dX11_honest_30 ?_
  refine sim_getI flX11_198 rfl rfl dX11_honest_33 ?_
  refine sim_bind (fun b3 e4 => ?_)
  refine sim_cS (As := [.ref 7, .ref 49, .int (b1.1 6 0)]) (st := []) (r := (some (.int b3))) (h1 := b1) (okX11_differing 7 rfl 49 rfl (b1.1 6 0) b1 b3 e4) (fun _ => rfl) mlX11_199 mtX11_differing rfl (Nat.le_of_ble_eq_true rfl) rfl (Nat.le_of_ble_eq_true rfl) dX11_honest_36 ?_
  refine sim_istore_n (L' := [(1, .int b3), (0, .ref 0)]) rfl (by decide) dX11_honest_39 ?_
  refine sim_aload_n 1 rfl dX11_honest_40 ?_
  refine sim_getR flX11_53 rfl rfl dX11_honest_41 ?_
  refine sim_aload_n 1 rfl dX11_honest_44 ?_
  refine sim_getR flX11_19 rfl rfl dX11_honest_45 ?_
  refine sim_getR flX11_133 rfl rfl dX11_honest_48 ?_
  refine sim_getR flX11_178 rfl rfl dX11_honest_51 ?_
  refine sim_bind (fun b5 e6 => ?_)
  refine sim_cS (As := [.ref 49, .ref 7]) (st := []) (r := none) (h1 := b5) (okX11_copyRow 49 rfl 7 rfl b1 b5 e6) (fun _ => rfl) mlX11_203 mtX11_copyRow rfl (Nat.le_of_ble_eq_true rfl) rfl (Nat.le_of_ble_eq_true rfl) dX11_honest_54 ?_
  refine sim_iload_n 0 rfl dX11_honest_57 ?_
  refine sim_cS (As := [.int b3]) (st := []) (r := (some (.int (fJ6_bitCount_0f7a4 b3 b5)))) (h1 := b5) (okJ6_bitCount_0f7a4 b3 b5) (fun _ => rfl) mlX11_214 mtJ6_bitCount_0f7a4 rfl (Nat.le_of_ble_eq_true rfl) rfl (Nat.le_of_ble_eq_true rfl) dX11_honest_58 ?_
  exact sim_iret rfl rfl dX11_honest_61
theorem okX11_honest (h : AH) (b : Int32 × AH) (e : fX11_honest h = some b) : Ok yX11_honest cX11_honest 2 (some .int) 5 [.ref 0] h (some (.int b.1), b.2) := ok_of (sX11_honest h) (by rw [e]; rfl) (by decide +kernel) (Nat.le_of_ble_eq_true rfl)
def fX11_forgetFound_l11b (rec : Int32 → AH → Option AH) (x1 : Int32) (h : AH) : Option AH :=
  if x1 < (4 : Int32) then
    letT (fX11_put 52 x1 (-2 : Int32) h) (fun g3 =>
    rec (x1 + 1) g3)
  else
    some h
def fX11_forgetFound_l11 : Nat → Int32 → AH → Option AH
  | 0, _, _ => none
  | n + 1, x1, h => fX11_forgetFound_l11b (fX11_forgetFound_l11 n) x1 h
theorem sX11_forgetFound_l11b {rec : Int32 → AH → Option AH} (hR : ∀ (x1 : Int32) (h : AH), Sim RX11 cX11_forgetFound 2 none 2 (Option.map oV) (rec x1 h) 11 [(0, .ref 0), (1, .int x1)] [] h) : ∀ (x1 : Int32) (h : AH), Sim RX11 cX11_forgetFound 2 none 2 (Option.map oV) (fX11_forgetFound_l11b rec x1 h) 11 [(0, .ref 0), (1, .int x1)] [] h := by
  intro x1 h
  unfold fX11_forgetFound_l11b
  refine sim_iload_n 1 rfl dX11_forgetFound_11 ?_
  refine sim_aload_n 0 rfl dX11_forgetFound_12 ?_
  refine sim_getR flX11_63 rfl rfl dX11_forgetFound_13 ?_
  refine sim_alen (v := 4) rfl (by decide) rfl dX11_forgetFound_16 ?_
  refine sim_icmp_ge (tgt := 36) dX11_forgetFound_17 (by decide) (fun c2 => ?_) (fun c2 => ?_)
  · exact sim_vret rfl rfl dX11_forgetFound_36
  · refine sim_aload_n 0 rfl dX11_forgetFound_20 ?_
    refine sim_getR flX11_63 rfl rfl dX11_forgetFound_21 ?_
    refine sim_iload_n 1 rfl dX11_forgetFound_24 ?_
    refine sim_bipush (v := -2) (by decide) dX11_forgetFound_25 ?_
    refine sim_cS (As := [.ref 52, .int x1, .int (-2 : Int32)]) (st := []) (r := none) (h1 := (fX11_put 52 x1 (-2 : Int32) h)) (okX11_put 52 rfl x1 (-2 : Int32) h) (fun _ => rfl) mlX11_112 mtX11_put rfl (Nat.le_of_ble_eq_true rfl) rfl (Nat.le_of_ble_eq_true rfl) dX11_forgetFound_27 ?_
    refine sim_nmH (fun g3 => ?_)
    refine sim_iinc (v := x1 + 1) (L' := [(1, .int (x1 + 1)), (0, .ref 0)]) 1 rfl rfl rfl (by decide) dX11_forgetFound_30 ?_
    refine sim_goto (tgt := 11) dX11_forgetFound_33 (by decide) ?_
    refine sim_sub [1, 0] rfl ?_
    exact hR (x1 + 1) g3
theorem sX11_forgetFound_l11 : ∀ (n : Nat) (x1 : Int32) (h : AH), Sim RX11 cX11_forgetFound 2 none 2 (Option.map oV) (fX11_forgetFound_l11 n x1 h) 11 [(0, .ref 0), (1, .int x1)] [] h := by
  intro n
  induction n with
  | zero => intro x1 h; exact sim_none
  | succ n ih => intro x1 h; exact sX11_forgetFound_l11b ih x1 h
def fX11_forgetFound (h : AH) : Option AH :=
  letT (fX11_put 52 (0 : Int32) (0 : Int32) h) (fun g1 =>
  fX11_forgetFound_l11 fuel0 (1 : Int32) g1)
theorem sX11_forgetFound (h : AH) : Sim RX11 cX11_forgetFound 2 none 2 (Option.map oV) (fX11_forgetFound h) 0 [(0, .ref 0)] [] h := by
  unfold fX11_forgetFound
  refine sim_aload_n 0 rfl dX11_forgetFound_0 ?_
  refine sim_getR flX11_63 rfl rfl dX11_forgetFound_1 ?_
  refine sim_iconst (v := 0) (by decide) dX11_forgetFound_4 ?_
  refine sim_iconst (v := 0) (by decide) dX11_forgetFound_5 ?_
  refine sim_cS (As := [.ref 52, .int (0 : Int32), .int (0 : Int32)]) (st := []) (r := none) (h1 := (fX11_put 52 (0 : Int32) (0 : Int32) h)) (okX11_put 52 rfl (0 : Int32) (0 : Int32) h) (fun _ => rfl) mlX11_112 mtX11_put rfl (Nat.le_of_ble_eq_true rfl) rfl (Nat.le_of_ble_eq_true rfl) dX11_forgetFound_6 ?_
  refine sim_nmH (fun g1 => ?_)
  refine sim_iconst (v := 1) (by decide) dX11_forgetFound_9 ?_
  refine sim_istore_n (L' := [(1, .int (1 : Int32)), (0, .ref 0)]) rfl (by decide) dX11_forgetFound_10 ?_
  refine sim_sub [1, 0] rfl ?_
  refine sX11_forgetFound_l11 _ (1 : Int32) g1
theorem okX11_forgetFound (h : AH) (b : AH) (e : fX11_forgetFound h = some b) : Ok yX11_forgetFound cX11_forgetFound 2 none 2 [.ref 0] h (none, b) := ok_of (sX11_forgetFound h) (by rw [e]; rfl) (by decide +kernel) (Nat.le_of_ble_eq_true rfl)
def fX11_isMendedBy_l39b (rec : Int32 → Option (Int32 × AH)) (h : AH) (x2 : Int32) : Option (Int32 × AH) :=
  if x2 < (h.1 6 0) then
    if (fX11_at 50 x2 h) = (fX9_made x2 50 h) then
      rec (x2 + 1)
    else
      some ((0 : Int32), h)
  else
    some ((1 : Int32), h)
def fX11_isMendedBy_l39 (h : AH) : Nat → Int32 → Option (Int32 × AH)
  | 0, _ => none
  | n + 1, x2 => fX11_isMendedBy_l39b (fX11_isMendedBy_l39 h n) h x2
theorem sX11_isMendedBy_l39b {rec : Int32 → Option (Int32 × AH)} {h : AH} (hR : ∀ (x2 : Int32), Sim RX11 cX11_isMendedBy 3 (some .boolean) 4 (Option.map oI) (rec x2) 39 [(0, .ref 0), (2, .int x2)] [] h) : ∀ (x2 : Int32), Sim RX11 cX11_isMendedBy 3 (some .boolean) 4 (Option.map oI) (fX11_isMendedBy_l39b rec h x2) 39 [(0, .ref 0), (2, .int x2)] [] h := by
  intro x2
  unfold fX11_isMendedBy_l39b
  refine sim_iload_n 1 rfl dX11_isMendedBy_39 ?_
  refine sim_aload_n 0 rfl dX11_isMendedBy_40 ?_
  refine sim_getR flX11_19 rfl rfl dX11_isMendedBy_41 ?_
  refine sim_getR flX11_133 rfl rfl dX11_isMendedBy_44 ?_
  refine sim_getI flX11_198 rfl rfl dX11_isMendedBy_47 ?_
  refine sim_icmp_ge (tgt := 84) dX11_isMendedBy_50 (by decide) (fun c4 => ?_) (fun c4 => ?_)
  · refine sim_iconst (v := 1) (by decide) dX11_isMendedBy_84 ?_
    exact sim_zret rfl rfl rfl dX11_isMendedBy_85
  · refine sim_aload_n 0 rfl dX11_isMendedBy_53 ?_
    refine sim_getR flX11_57 rfl rfl dX11_isMendedBy_54 ?_
    refine sim_iload_n 1 rfl dX11_isMendedBy_57 ?_
    refine sim_cS (As := [.ref 50, .int x2]) (st := []) (r := (some (.int (fX11_at 50 x2 h)))) (h1 := h) (okX11_at 50 rfl x2 h) (fun _ => rfl) mlX11_164 mtX11_at rfl (Nat.le_of_ble_eq_true rfl) rfl (Nat.le_of_ble_eq_true rfl) dX11_isMendedBy_58 ?_
    refine sim_aload_n 0 rfl dX11_isMendedBy_61 ?_
    refine sim_getR flX11_19 rfl rfl dX11_isMendedBy_62 ?_
    refine sim_iload_n 1 rfl dX11_isMendedBy_65 ?_
    refine sim_aload_n 0 rfl dX11_isMendedBy_66 ?_
    refine sim_getR flX11_57 rfl rfl dX11_isMendedBy_67 ?_
    refine sim_cV (As := [.int x2, .ref 50]) (st := [.int (fX11_at 50 x2 h)]) (r := (some (.int (fX9_made x2 50 h)))) (h1 := h) (okX9_made x2 50 rfl h) (fun _ => rfl) mlX11_181 mtX9_made rfl rfl rfl rfl (Nat.le_of_ble_eq_true rfl) rfl (Nat.le_of_ble_eq_true rfl) dX11_isMendedBy_70 ?_
    refine sim_icmp_eq (tgt := 78) dX11_isMendedBy_73 (by decide) (fun c5 => ?_) (fun c5 => ?_)
    · refine sim_iinc (v := x2 + 1) (L' := [(2, .int (x2 + 1)), (0, .ref 0)]) 1 rfl rfl rfl (by decide) dX11_isMendedBy_78 ?_
      refine sim_goto (tgt := 39) dX11_isMendedBy_81 (by decide) ?_
      refine sim_sub [1, 0] rfl ?_
      exact hR (x2 + 1)
    · refine sim_iconst (v := 0) (by decide) dX11_isMendedBy_76 ?_
      exact sim_zret rfl rfl rfl dX11_isMendedBy_77
theorem sX11_isMendedBy_l39 {h : AH} : ∀ (n : Nat) (x2 : Int32), Sim RX11 cX11_isMendedBy 3 (some .boolean) 4 (Option.map oI) (fX11_isMendedBy_l39 h n x2) 39 [(0, .ref 0), (2, .int x2)] [] h := by
  intro n
  induction n with
  | zero => intro x2; exact sim_none
  | succ n ih => intro x2; exact sX11_isMendedBy_l39b ih x2
def fX11_isMendedBy (p1 : Int32) (h : AH) : Option (Int32 × AH) :=
  (fX11_copyRow 7 50 h).bind (fun b1 =>
  letT (fX11_put 50 p1 (fX9_made p1 50 b1) b1) (fun g3 =>
  fX11_isMendedBy_l39 g3 fuel0 (0 : Int32)))
theorem sX11_isMendedBy (p1 : Int32) (h : AH) : Sim RX11 cX11_isMendedBy 3 (some .boolean) 4 (Option.map oI) (fX11_isMendedBy p1 h) 0 [(0, .ref 0), (1, .int p1)] [] h := by
  unfold fX11_isMendedBy
  refine sim_aload_n 0 rfl dX11_isMendedBy_0 ?_
  refine sim_getR flX11_19 rfl rfl dX11_isMendedBy_1 ?_
  refine sim_getR flX11_133 rfl rfl dX11_isMendedBy_4 ?_
  refine sim_getR flX11_178 rfl rfl dX11_isMendedBy_7 ?_
  refine sim_aload_n 0 rfl dX11_isMendedBy_10 ?_
  refine sim_getR flX11_57 rfl rfl dX11_isMendedBy_11 ?_
  refine sim_bind (fun b1 e2 => ?_)
  refine sim_cS (As := [.ref 7, .ref 50]) (st := []) (r := none) (h1 := b1) (okX11_copyRow 7 rfl 50 rfl h b1 e2) (fun _ => rfl) mlX11_203 mtX11_copyRow rfl (Nat.le_of_ble_eq_true rfl) rfl (Nat.le_of_ble_eq_true rfl) dX11_isMendedBy_14 ?_
  refine sim_aload_n 0 rfl dX11_isMendedBy_17 ?_
  refine sim_getR flX11_57 rfl rfl dX11_isMendedBy_18 ?_
  refine sim_iload_n 1 rfl dX11_isMendedBy_21 ?_
  refine sim_aload_n 0 rfl dX11_isMendedBy_22 ?_
  refine sim_getR flX11_19 rfl rfl dX11_isMendedBy_23 ?_
  refine sim_iload_n 1 rfl dX11_isMendedBy_26 ?_
  refine sim_aload_n 0 rfl dX11_isMendedBy_27 ?_
  refine sim_getR flX11_57 rfl rfl dX11_isMendedBy_28 ?_
  refine sim_cV (As := [.int p1, .ref 50]) (st := [.int p1, .ref 50]) (r := (some (.int (fX9_made p1 50 b1)))) (h1 := b1) (okX9_made p1 50 rfl b1) (fun _ => rfl) mlX11_181 mtX9_made rfl rfl rfl rfl (Nat.le_of_ble_eq_true rfl) rfl (Nat.le_of_ble_eq_true rfl) dX11_isMendedBy_31 ?_
  refine sim_cS (As := [.ref 50, .int p1, .int (fX9_made p1 50 b1)]) (st := []) (r := none) (h1 := (fX11_put 50 p1 (fX9_made p1 50 b1) b1)) (okX11_put 50 rfl p1 (fX9_made p1 50 b1) b1) (fun _ => rfl) mlX11_112 mtX11_put rfl (Nat.le_of_ble_eq_true rfl) rfl (Nat.le_of_ble_eq_true rfl) dX11_isMendedBy_34 ?_
  refine sim_nmH (fun g3 => ?_)
  refine sim_iconst (v := 0) (by decide) dX11_isMendedBy_37 ?_
  refine sim_istore_n (L' := [(2, .int (0 : Int32)), (0, .ref 0), (1, .int p1)]) rfl (by decide) dX11_isMendedBy_38 ?_
  refine sim_sub [1, 0] rfl ?_
  refine sX11_isMendedBy_l39 _ (0 : Int32)
theorem okX11_isMendedBy (p1 : Int32) (h : AH) (b : Int32 × AH) (e : fX11_isMendedBy p1 h = some b) : Ok yX11_isMendedBy cX11_isMendedBy 3 (some .boolean) 4 [.ref 0, .int p1] h (some (.int b.1), b.2) := ok_of (sX11_isMendedBy p1 h) (by rw [e]; rfl) (by decide +kernel) (Nat.le_of_ble_eq_true rfl)
def fX11_noteFound (p1 : Int32) (p2 : Int32) (p3 : Int32) (h : AH) : AH :=
  letT (fun (g1 : AH) =>
    letT (fX11_put 52 (0 : Int32) ((fX11_at 52 (0 : Int32) g1) + (1 : Int32)) g1) (fun g3 =>
    g3)) (fun J2 =>
  if (fX11_at 52 (0 : Int32) h) = 0 then
    letT (fX11_put 52 (1 : Int32) p1 h) (fun g5 =>
    letT (fX11_put 52 (2 : Int32) p2 g5) (fun g6 =>
    letT (fX11_put 52 (3 : Int32) p3 g6) (fun g7 =>
    J2 g7)))
  else
    J2 h)
theorem sX11_noteFound (p1 : Int32) (p2 : Int32) (p3 : Int32) (h : AH) : Sim RX11 cX11_noteFound 4 none 2 (tV) (fX11_noteFound p1 p2 p3 h) 0 [(0, .ref 0), (1, .int p1), (2, .int p2), (3, .int p3)] [] h := by
  unfold fX11_noteFound
  refine sim_aload_n 0 rfl dX11_noteFound_0 ?_
  refine sim_getR flX11_63 rfl rfl dX11_noteFound_1 ?_
  refine sim_iconst (v := 0) (by decide) dX11_noteFound_4 ?_
  refine sim_cS (As := [.ref 52, .int (0 : Int32)]) (st := []) (r := (some (.int (fX11_at 52 (0 : Int32) h)))) (h1 := h) (okX11_at 52 rfl (0 : Int32) h) (fun _ => rfl) mlX11_164 mtX11_at rfl (Nat.le_of_ble_eq_true rfl) rfl (Nat.le_of_ble_eq_true rfl) dX11_noteFound_5 ?_
  refine sim_letJ (fun J2 => ∀ (g1 : AH), Sim RX11 cX11_noteFound 4 none 2 (tV) (J2 g1) 38 [(0, .ref 0)] [] g1) (fun g1 => ?_) (fun J2 hJ2 => ?_)
  · refine sim_aload_n 0 rfl dX11_noteFound_38 ?_
    refine sim_getR flX11_63 rfl rfl dX11_noteFound_39 ?_
    refine sim_iconst (v := 0) (by decide) dX11_noteFound_42 ?_
    refine sim_aload_n 0 rfl dX11_noteFound_43 ?_
    refine sim_getR flX11_63 rfl rfl dX11_noteFound_44 ?_
    refine sim_iconst (v := 0) (by decide) dX11_noteFound_47 ?_
    refine sim_cS (As := [.ref 52, .int (0 : Int32)]) (st := [.int (0 : Int32), .ref 52]) (r := (some (.int (fX11_at 52 (0 : Int32) g1)))) (h1 := g1) (okX11_at 52 rfl (0 : Int32) g1) (fun _ => rfl) mlX11_164 mtX11_at rfl (Nat.le_of_ble_eq_true rfl) rfl (Nat.le_of_ble_eq_true rfl) dX11_noteFound_48 ?_
    refine sim_iconst (v := 1) (by decide) dX11_noteFound_51 ?_
    refine sim_iadd dX11_noteFound_52 ?_
    refine sim_cS (As := [.ref 52, .int (0 : Int32), .int ((fX11_at 52 (0 : Int32) g1) + (1 : Int32))]) (st := []) (r := none) (h1 := (fX11_put 52 (0 : Int32) ((fX11_at 52 (0 : Int32) g1) + (1 : Int32)) g1)) (okX11_put 52 rfl (0 : Int32) ((fX11_at 52 (0 : Int32) g1) + (1 : Int32)) g1) (fun _ => rfl) mlX11_112 mtX11_put rfl (Nat.le_of_ble_eq_true rfl) rfl (Nat.le_of_ble_eq_true rfl) dX11_noteFound_53 ?_
    refine sim_nmH (fun g3 => ?_)
    exact sim_vret rfl rfl dX11_noteFound_56
  refine sim_if_ne (tgt := 38) dX11_noteFound_8 (by decide) (fun c4 => ?_) (fun c4 => ?_)
  · refine sim_sub [0] rfl ?_
    exact hJ2 h
  · refine sim_aload_n 0 rfl dX11_noteFound_11 ?_
    refine sim_getR flX11_63 rfl rfl dX11_noteFound_12 ?_
    refine sim_iconst (v := 1) (by decide) dX11_noteFound_15 ?_
    refine sim_iload_n 1 rfl dX11_noteFound_16 ?_
    refine sim_cS (As := [.ref 52, .int (1 : Int32), .int p1]) (st := []) (r := none) (h1 := (fX11_put 52 (1 : Int32) p1 h)) (okX11_put 52 rfl (1 : Int32) p1 h) (fun _ => rfl) mlX11_112 mtX11_put rfl (Nat.le_of_ble_eq_true rfl) rfl (Nat.le_of_ble_eq_true rfl) dX11_noteFound_17 ?_
    refine sim_nmH (fun g5 => ?_)
    refine sim_aload_n 0 rfl dX11_noteFound_20 ?_
    refine sim_getR flX11_63 rfl rfl dX11_noteFound_21 ?_
    refine sim_iconst (v := 2) (by decide) dX11_noteFound_24 ?_
    refine sim_iload_n 2 rfl dX11_noteFound_25 ?_
    refine sim_cS (As := [.ref 52, .int (2 : Int32), .int p2]) (st := []) (r := none) (h1 := (fX11_put 52 (2 : Int32) p2 g5)) (okX11_put 52 rfl (2 : Int32) p2 g5) (fun _ => rfl) mlX11_112 mtX11_put rfl (Nat.le_of_ble_eq_true rfl) rfl (Nat.le_of_ble_eq_true rfl) dX11_noteFound_26 ?_
    refine sim_nmH (fun g6 => ?_)
    refine sim_aload_n 0 rfl dX11_noteFound_29 ?_
    refine sim_getR flX11_63 rfl rfl dX11_noteFound_30 ?_
    refine sim_iconst (v := 3) (by decide) dX11_noteFound_33 ?_
    refine sim_iload_n 3 rfl dX11_noteFound_34 ?_
    refine sim_cS (As := [.ref 52, .int (3 : Int32), .int p3]) (st := []) (r := none) (h1 := (fX11_put 52 (3 : Int32) p3 g6)) (okX11_put 52 rfl (3 : Int32) p3 g6) (fun _ => rfl) mlX11_112 mtX11_put rfl (Nat.le_of_ble_eq_true rfl) rfl (Nat.le_of_ble_eq_true rfl) dX11_noteFound_35 ?_
    refine sim_nmH (fun g7 => ?_)
    refine sim_sub [0] rfl ?_
    exact hJ2 g7
theorem okX11_noteFound (p1 : Int32) (p2 : Int32) (p3 : Int32) (h : AH) : Ok yX11_noteFound cX11_noteFound 4 none 2 [.ref 0, .int p1, .int p2, .int p3] h (none, fX11_noteFound p1 p2 p3 h) := ok_of (sX11_noteFound p1 p2 p3 h) rfl (by decide +kernel) (Nat.le_of_ble_eq_true rfl)
def fX11_mended_l27b (rec : Int32 → AH → Option (Int32 × AH)) (K91 : AH → Option (Int32 × AH)) (x1 : Int32) (x2 : Int32) (h : AH) : Option (Int32 × AH) :=
  if x2 < (h.1 6 0) then
    if (fX9_isWrong x2 h) = 0 then
      rec (x2 + 1) h
    else
      (fX11_isMendedBy x2 h).bind (fun b10 =>
      if b10.1 = 0 then
        rec (x2 + 1) b10.2
      else
        letT (fX11_noteFound x2 (fX9_made x2 7 b10.2) (-2 : Int32) b10.2) (fun g13 =>
        rec (x2 + 1) g13))
  else
    K91 h
def fX11_mended_l27 (K91 : AH → Option (Int32 × AH)) (x1 : Int32) : Nat → Int32 → AH → Option (Int32 × AH)
  | 0, _, _ => none
  | n + 1, x2, h => fX11_mended_l27b (fX11_mended_l27 K91 x1 n) K91 x1 x2 h
theorem sX11_mended_l27b {rec : Int32 → AH → Option (Int32 × AH)} {K91 : AH → Option (Int32 × AH)} {x1 : Int32} (hR : ∀ (x2 : Int32) (h : AH), Sim RX11 cX11_mended 3 (some .int) 6 (Option.map oI) (rec x2 h) 27 [(0, .ref 0), (1, .int x1), (2, .int x2)] [] h) (hK91 : ∀ (g : AH), Sim RX11 cX11_mended 3 (some .int) 6 (Option.map oI) (K91 g) 91 [(0, .ref 0), (1, .int x1)] [] g) : ∀ (x2 : Int32) (h : AH), Sim RX11 cX11_mended 3 (some .int) 6 (Option.map oI) (fX11_mended_l27b rec K91 x1 x2 h) 27 [(0, .ref 0), (1, .int x1), (2, .int x2)] [] h := by
  intro x2 h
  unfold fX11_mended_l27b
  refine sim_iload_n 2 rfl dX11_mended_27 ?_
  refine sim_aload_n 0 rfl dX11_mended_28 ?_
  refine sim_getR flX11_19 rfl rfl dX11_mended_29 ?_
  refine sim_getR flX11_133 rfl rfl dX11_mended_32 ?_
  refine sim_getI flX11_198 rfl rfl dX11_mended_35 ?_
  refine sim_icmp_ge (tgt := 91) dX11_mended_38 (by decide) (fun c8 => ?_) (fun c8 => ?_)
  · refine sim_sub [0, 1] rfl ?_
    exact hK91 h
  · refine sim_aload_n 0 rfl dX11_mended_41 ?_
    refine sim_getR flX11_19 rfl rfl dX11_mended_42 ?_
    refine sim_iload_n 2 rfl dX11_mended_45 ?_
    refine sim_cV (As := [.int x2]) (st := []) (r := (some (.int (fX9_isWrong x2 h)))) (h1 := h) (okX9_isWrong x2 h) (fun _ => rfl) mlX11_191 mtX9_isWrong rfl rfl rfl rfl (Nat.le_of_ble_eq_true rfl) rfl (Nat.le_of_ble_eq_true rfl) dX11_mended_46 ?_
    refine sim_if_eq (tgt := 85) dX11_mended_49 (by decide) (fun c9 => ?_) (fun c9 => ?_)
    · refine sim_iinc (v := x2 + 1) (L' := [(2, .int (x2 + 1)), (0, .ref 0), (1, .int x1)]) 2 rfl rfl rfl (by decide) dX11_mended_85 ?_
      refine sim_goto (tgt := 27) dX11_mended_88 (by decide) ?_
      refine sim_sub [1, 2, 0] rfl ?_
      exact hR (x2 + 1) h
    · refine sim_aload_n 0 rfl dX11_mended_52 ?_
      refine sim_iload_n 2 rfl dX11_mended_53 ?_
      refine sim_bind (fun b10 e11 => ?_)
      refine sim_cV (As := [.int x2]) (st := []) (r := (some (.int b10.1))) (h1 := b10.2) (okX11_isMendedBy x2 h b10 e11) (fun _ => rfl) mlX11_222 mtX11_isMendedBy rfl rfl rfl rfl (Nat.le_of_ble_eq_true rfl) rfl (Nat.le_of_ble_eq_true rfl) dX11_mended_54 ?_
      refine sim_if_eq (tgt := 85) dX11_mended_57 (by decide) (fun c12 => ?_) (fun c12 => ?_)
      · refine sim_iinc (v := x2 + 1) (L' := [(2, .int (x2 + 1)), (0, .ref 0), (1, .int x1)]) 2 rfl rfl rfl (by decide) dX11_mended_85 ?_
        refine sim_goto (tgt := 27) dX11_mended_88 (by decide) ?_
        refine sim_sub [1, 2, 0] rfl ?_
        exact hR (x2 + 1) b10.2
      · refine sim_aload_n 0 rfl dX11_mended_60 ?_
        refine sim_iload_n 2 rfl dX11_mended_61 ?_
        refine sim_aload_n 0 rfl dX11_mended_62 ?_
        refine sim_getR flX11_19 rfl rfl dX11_mended_63 ?_
        refine sim_iload_n 2 rfl dX11_mended_66 ?_
        refine sim_aload_n 0 rfl dX11_mended_67 ?_
        refine sim_getR flX11_19 rfl rfl dX11_mended_68 ?_
        refine sim_getR flX11_133 rfl rfl dX11_mended_71 ?_
        refine sim_getR flX11_178 rfl rfl dX11_mended_74 ?_
        refine sim_cV (As := [.int x2, .ref 7]) (st := [.int x2, .ref 0]) (r := (some (.int (fX9_made x2 7 b10.2)))) (h1 := b10.2) (okX9_made x2 7 rfl b10.2) (fun _ => rfl) mlX11_181 mtX9_made rfl rfl rfl rfl (Nat.le_of_ble_eq_true rfl) rfl (Nat.le_of_ble_eq_true rfl) dX11_mended_77 ?_
        refine sim_bipush (v := -2) (by decide) dX11_mended_80 ?_
        refine sim_cV (As := [.int x2, .int (fX9_made x2 7 b10.2), .int (-2 : Int32)]) (st := []) (r := none) (h1 := (fX11_noteFound x2 (fX9_made x2 7 b10.2) (-2 : Int32) b10.2)) (okX11_noteFound x2 (fX9_made x2 7 b10.2) (-2 : Int32) b10.2) (fun _ => rfl) mlX11_225 mtX11_noteFound rfl rfl rfl rfl (Nat.le_of_ble_eq_true rfl) rfl (Nat.le_of_ble_eq_true rfl) dX11_mended_82 ?_
        refine sim_nmH (fun g13 => ?_)
        refine sim_iinc (v := x2 + 1) (L' := [(2, .int (x2 + 1)), (0, .ref 0), (1, .int x1)]) 2 rfl rfl rfl (by decide) dX11_mended_85 ?_
        refine sim_goto (tgt := 27) dX11_mended_88 (by decide) ?_
        refine sim_sub [1, 2, 0] rfl ?_
        exact hR (x2 + 1) g13
theorem sX11_mended_l27 {K91 : AH → Option (Int32 × AH)} {x1 : Int32} (hK91 : ∀ (g : AH), Sim RX11 cX11_mended 3 (some .int) 6 (Option.map oI) (K91 g) 91 [(0, .ref 0), (1, .int x1)] [] g) : ∀ (n : Nat) (x2 : Int32) (h : AH), Sim RX11 cX11_mended 3 (some .int) 6 (Option.map oI) (fX11_mended_l27 K91 x1 n x2 h) 27 [(0, .ref 0), (1, .int x1), (2, .int x2)] [] h := by
  intro n
  induction n with
  | zero => intro x2 h; exact sim_none
  | succ n ih => intro x2 h; exact sX11_mended_l27b ih hK91 x2 h
def fX11_mended (p1 : Int32) (h : AH) : Option (Int32 × AH) :=
  if p1 < 0 then
    some ((-1 : Int32), h)
  else
    if (2 : Int32) < p1 then
      some ((-1 : Int32), h)
    else
      (fX9_wrongLines h).bind (fun b3 =>
      if b3 = 0 then
        some ((-1 : Int32), h)
      else
        (fX11_forgetFound h).bind (fun b6 =>
        fX11_mended_l27 (fun (g14 : AH) =>
          some (fX11_at 52 p1 g14, g14)) p1 fuel0 (0 : Int32) b6))
theorem sX11_mended (p1 : Int32) (h : AH) : Sim RX11 cX11_mended 3 (some .int) 6 (Option.map oI) (fX11_mended p1 h) 0 [(0, .ref 0), (1, .int p1)] [] h := by
  unfold fX11_mended
  refine sim_iload_n 1 rfl dX11_mended_0 ?_
  refine sim_if_lt (tgt := 19) dX11_mended_1 (by decide) (fun c1 => ?_) (fun c1 => ?_)
  · refine sim_iconst (v := -1) (by decide) dX11_mended_19 ?_
    exact sim_iret rfl rfl dX11_mended_20
  · refine sim_iload_n 1 rfl dX11_mended_4 ?_
    refine sim_iconst (v := 2) (by decide) dX11_mended_5 ?_
    refine sim_icmp_gt (tgt := 19) dX11_mended_6 (by decide) (fun c2 => ?_) (fun c2 => ?_)
    · refine sim_iconst (v := -1) (by decide) dX11_mended_19 ?_
      exact sim_iret rfl rfl dX11_mended_20
    · refine sim_aload_n 0 rfl dX11_mended_9 ?_
      refine sim_getR flX11_19 rfl rfl dX11_mended_10 ?_
      refine sim_bind (fun b3 e4 => ?_)
      refine sim_cV (As := []) (st := []) (r := (some (.int b3))) (h1 := h) (okX9_wrongLines h b3 e4) (fun _ => rfl) mlX11_194 mtX9_wrongLines rfl rfl rfl rfl (Nat.le_of_ble_eq_true rfl) rfl (Nat.le_of_ble_eq_true rfl) dX11_mended_13 ?_
      refine sim_if_ne (tgt := 21) dX11_mended_16 (by decide) (fun c5 => ?_) (fun c5 => ?_)
      · refine sim_aload_n 0 rfl dX11_mended_21 ?_
        refine sim_bind (fun b6 e7 => ?_)
        refine sim_cV (As := []) (st := []) (r := none) (h1 := b6) (okX11_forgetFound h b6 e7) (fun _ => rfl) mlX11_219 mtX11_forgetFound rfl rfl rfl rfl (Nat.le_of_ble_eq_true rfl) rfl (Nat.le_of_ble_eq_true rfl) dX11_mended_22 ?_
        refine sim_iconst (v := 0) (by decide) dX11_mended_25 ?_
        refine sim_istore_n (L' := [(2, .int (0 : Int32)), (0, .ref 0), (1, .int p1)]) rfl (by decide) dX11_mended_26 ?_
        refine sim_sub [1, 2, 0] rfl ?_
        refine sX11_mended_l27 (fun g14 => ?_) _ (0 : Int32) b6
        · refine sim_aload_n 0 rfl dX11_mended_91 ?_
          refine sim_getR flX11_63 rfl rfl dX11_mended_92 ?_
          refine sim_iload_n 1 rfl dX11_mended_95 ?_
          refine sim_cS (As := [.ref 52, .int p1]) (st := []) (r := (some (.int (fX11_at 52 p1 g14)))) (h1 := g14) (okX11_at 52 rfl p1 g14) (fun _ => rfl) mlX11_164 mtX11_at rfl (Nat.le_of_ble_eq_true rfl) rfl (Nat.le_of_ble_eq_true rfl) dX11_mended_96 ?_
          exact sim_iret rfl rfl dX11_mended_99
      · refine sim_iconst (v := -1) (by decide) dX11_mended_19 ?_
        exact sim_iret rfl rfl dX11_mended_20
theorem okX11_mended (p1 : Int32) (h : AH) (b : Int32 × AH) (e : fX11_mended p1 h = some b) : Ok yX11_mended cX11_mended 3 (some .int) 6 [.ref 0, .int p1] h (some (.int b.1), b.2) := ok_of (sX11_mended p1 h) (by rw [e]; rfl) (by decide +kernel) (Nat.le_of_ble_eq_true rfl)
def fX11_referElsewhere_l65b (rec : Int32 → AH → Option AH) (x1 : Int32) (x2 : Int32) (x3 : Int32) (x4 : Int32) (x5 : Int32) (x6 : Int32) (h : AH) : Option AH :=
  if x6 < x1 then
    letT (fun (w5 : Int32) =>
      letT (fun (w7 : Int32) =>
        letT (fun (w9 : Int32) =>
          letT (fun (w11 : Int32) =>
            letT (fX9_madeOf x3 w9 w11 7 h) (fun v13 =>
            if w7 = 0 then
              rec (x6 + 1) h
            else
              if v13 = (fX9_claimOf x1 h) then
                letT (fX11_noteFound x1 x2 x6 h) (fun g16 =>
                rec (x6 + 1) g16)
              else
                rec (x6 + 1) h)) (fun J12 =>
          if x2 = (1 : Int32) then
            J12 x6
          else
            J12 x5)) (fun J10 =>
        if x2 = 0 then
          J10 x6
        else
          J10 x4)) (fun J8 =>
      if x6 = w5 then
        J8 (0 : Int32)
      else
        J8 (1 : Int32))) (fun J6 =>
    if x2 = 0 then
      J6 x4
    else
      J6 x5)
  else
    some h
def fX11_referElsewhere_l65 (x1 : Int32) (x2 : Int32) (x3 : Int32) (x4 : Int32) (x5 : Int32) : Nat → Int32 → AH → Option AH
  | 0, _, _ => none
  | n + 1, x6, h => fX11_referElsewhere_l65b (fX11_referElsewhere_l65 x1 x2 x3 x4 x5 n) x1 x2 x3 x4 x5 x6 h
theorem sX11_referElsewhere_l65b {rec : Int32 → AH → Option AH} {x1 : Int32} {x2 : Int32} {x3 : Int32} {x4 : Int32} {x5 : Int32} (hR : ∀ (x6 : Int32) (h : AH), Sim RX11 cX11_referElsewhere 9 none 3 (Option.map oV) (rec x6 h) 65 [(0, .ref 0), (1, .int x1), (2, .int x2), (3, .int x3), (4, .int x4), (5, .int x5), (6, .int x6)] [] h) : ∀ (x6 : Int32) (h : AH), Sim RX11 cX11_referElsewhere 9 none 3 (Option.map oV) (fX11_referElsewhere_l65b rec x1 x2 x3 x4 x5 x6 h) 65 [(0, .ref 0), (1, .int x1), (2, .int x2), (3, .int x3), (4, .int x4), (5, .int x5), (6, .int x6)] [] h := by
  intro x6 h
  unfold fX11_referElsewhere_l65b
  refine sim_iload 6 rfl dX11_referElsewhere_65 ?_
  refine sim_iload_n 1 rfl dX11_referElsewhere_67 ?_
  refine sim_icmp_ge (tgt := 169) dX11_referElsewhere_68 (by decide) (fun c4 => ?_) (fun c4 => ?_)
  · exact sim_vret rfl rfl dX11_referElsewhere_169
  · refine sim_iload 6 rfl dX11_referElsewhere_71 ?_
    refine sim_iload_n 2 rfl dX11_referElsewhere_73 ?_
    refine sim_letJ (fun J6 => ∀ (w5 : Int32), Sim RX11 cX11_referElsewhere 9 none 3 (Option.map oV) (J6 w5) 84 [(0, .ref 0), (1, .int x1), (2, .int x2), (3, .int x3), (4, .int x4), (5, .int x5), (6, .int x6)] [.int w5, .int x6] h) (fun w5 => ?_) (fun J6 hJ6 => ?_)
    · refine sim_letJ (fun J8 => ∀ (w7 : Int32), Sim RX11 cX11_referElsewhere 9 none 3 (Option.map oV) (J8 w7) 92 [(0, .ref 0), (1, .int x1), (2, .int x2), (3, .int x3), (4, .int x4), (5, .int x5), (6, .int x6)] [.int w7] h) (fun w7 => ?_) (fun J8 hJ8 => ?_)
      · refine sim_istore (L' := [(7, .int w7), (0, .ref 0), (1, .int x1), (2, .int x2), (3, .int x3), (4, .int x4), (5, .int x5), (6, .int x6)]) rfl (by decide) dX11_referElsewhere_92 ?_
        refine sim_aload_n 1 rfl dX11_referElsewhere_94 ?_
        refine sim_getR flX11_19 rfl rfl dX11_referElsewhere_95 ?_
        refine sim_iload_n 4 rfl dX11_referElsewhere_98 ?_
        refine sim_iload_n 3 rfl dX11_referElsewhere_99 ?_
        refine sim_letJ (fun J10 => ∀ (w9 : Int32), Sim RX11 cX11_referElsewhere 9 none 3 (Option.map oV) (J10 w9) 110 [(0, .ref 0), (1, .int x1), (2, .int x2), (3, .int x3), (4, .int x4), (5, .int x5), (6, .int x6), (7, .int w7)] [.int w9, .int x3, .ref 3] h) (fun w9 => ?_) (fun J10 hJ10 => ?_)
        · refine sim_iload_n 2 rfl dX11_referElsewhere_110 ?_
          refine sim_iconst (v := 1) (by decide) dX11_referElsewhere_111 ?_
          refine sim_letJ (fun J12 => ∀ (w11 : Int32), Sim RX11 cX11_referElsewhere 9 none 3 (Option.map oV) (J12 w11) 122 [(0, .ref 0), (1, .int x1), (2, .int x2), (3, .int x3), (4, .int x4), (5, .int x5), (6, .int x6), (7, .int w7)] [.int w11, .int w9, .int x3, .ref 3] h) (fun w11 => ?_) (fun J12 hJ12 => ?_)
          · refine sim_aload_n 0 rfl dX11_referElsewhere_122 ?_
            refine sim_getR flX11_19 rfl rfl dX11_referElsewhere_123 ?_
            refine sim_getR flX11_133 rfl rfl dX11_referElsewhere_126 ?_
            refine sim_getR flX11_178 rfl rfl dX11_referElsewhere_129 ?_
            refine sim_cV (As := [.int x3, .int w9, .int w11, .ref 7]) (st := []) (r := (some (.int (fX9_madeOf x3 w9 w11 7 h)))) (h1 := h) (okX9_madeOf x3 w9 w11 7 rfl h) (fun _ => rfl) mlX11_344 mtX9_madeOf rfl rfl rfl rfl (Nat.le_of_ble_eq_true rfl) rfl (Nat.le_of_ble_eq_true rfl) dX11_referElsewhere_132 ?_
            refine sim_nmI (fun v13 => ?_)
            refine sim_istore (L' := [(8, .int v13), (0, .ref 0), (1, .int x1), (2, .int x2), (3, .int x3), (4, .int x4), (5, .int x5), (6, .int x6), (7, .int w7)]) rfl (by decide) dX11_referElsewhere_135 ?_
            refine sim_iload 8 rfl dX11_referElsewhere_137 ?_
            refine sim_if_eq (tgt := 163) dX11_referElsewhere_139 (by decide) (fun c14 => ?_) (fun c14 => ?_)
            · refine sim_iinc (v := x6 + 1) (L' := [(6, .int (x6 + 1)), (8, .int v13), (0, .ref 0), (1, .int x1), (2, .int x2), (3, .int x3), (4, .int x4), (5, .int x5), (7, .int w7)]) 7 rfl rfl rfl (by decide) dX11_referElsewhere_163 ?_
              refine sim_goto (tgt := 65) dX11_referElsewhere_166 (by decide) ?_
              refine sim_sub [2, 3, 4, 5, 6, 7, 0] rfl ?_
              exact hR (x6 + 1) h
            · refine sim_iload 0 rfl dX11_referElsewhere_142 ?_
              refine sim_aload_n 1 rfl dX11_referElsewhere_144 ?_
              refine sim_getR flX11_19 rfl rfl dX11_referElsewhere_145 ?_
              refine sim_iload_n 2 rfl dX11_referElsewhere_148 ?_
              refine sim_cV (As := [.int x1]) (st := [.int v13]) (r := (some (.int (fX9_claimOf x1 h)))) (h1 := h) (okX9_claimOf x1 h) (fun _ => rfl) mlX11_158 mtX9_claimOf rfl rfl rfl rfl (Nat.le_of_ble_eq_true rfl) rfl (Nat.le_of_ble_eq_true rfl) dX11_referElsewhere_149 ?_
              refine sim_icmp_ne (tgt := 163) dX11_referElsewhere_152 (by decide) (fun c15 => ?_) (fun c15 => ?_)
              · refine sim_iinc (v := x6 + 1) (L' := [(6, .int (x6 + 1)), (8, .int v13), (0, .ref 0), (1, .int x1), (2, .int x2), (3, .int x3), (4, .int x4), (5, .int x5), (7, .int w7)]) 7 rfl rfl rfl (by decide) dX11_referElsewhere_163 ?_
                refine sim_goto (tgt := 65) dX11_referElsewhere_166 (by decide) ?_
                refine sim_sub [2, 3, 4, 5, 6, 7, 0] rfl ?_
                exact hR (x6 + 1) h
              · refine sim_aload_n 1 rfl dX11_referElsewhere_155 ?_
                refine sim_iload_n 2 rfl dX11_referElsewhere_156 ?_
                refine sim_iload_n 3 rfl dX11_referElsewhere_157 ?_
                refine sim_iload 7 rfl dX11_referElsewhere_158 ?_
                refine sim_cV (As := [.int x1, .int x2, .int x6]) (st := []) (r := none) (h1 := (fX11_noteFound x1 x2 x6 h)) (okX11_noteFound x1 x2 x6 h) (fun _ => rfl) mlX11_225 mtX11_noteFound rfl rfl rfl rfl (Nat.le_of_ble_eq_true rfl) rfl (Nat.le_of_ble_eq_true rfl) dX11_referElsewhere_160 ?_
                refine sim_nmH (fun g16 => ?_)
                refine sim_iinc (v := x6 + 1) (L' := [(6, .int (x6 + 1)), (8, .int v13), (0, .ref 0), (1, .int x1), (2, .int x2), (3, .int x3), (4, .int x4), (5, .int x5), (7, .int w7)]) 7 rfl rfl rfl (by decide) dX11_referElsewhere_163 ?_
                refine sim_goto (tgt := 65) dX11_referElsewhere_166 (by decide) ?_
                refine sim_sub [2, 3, 4, 5, 6, 7, 0] rfl ?_
                exact hR (x6 + 1) g16
          refine sim_icmp_ne (tgt := 120) dX11_referElsewhere_112 (by decide) (fun c17 => ?_) (fun c17 => ?_)
          · refine sim_iload 5 rfl dX11_referElsewhere_120 ?_
            exact hJ12 x5
          · refine sim_iload 6 rfl dX11_referElsewhere_115 ?_
            refine sim_goto (tgt := 122) dX11_referElsewhere_117 (by decide) ?_
            exact hJ12 x6
        refine sim_if_ne (tgt := 108) dX11_referElsewhere_100 (by decide) (fun c18 => ?_) (fun c18 => ?_)
        · refine sim_iload 5 rfl dX11_referElsewhere_108 ?_
          refine sim_sub [1, 2, 3, 4, 5, 6, 7, 0] rfl ?_
          exact hJ10 x4
        · refine sim_iload 7 rfl dX11_referElsewhere_103 ?_
          refine sim_goto (tgt := 110) dX11_referElsewhere_105 (by decide) ?_
          refine sim_sub [1, 2, 3, 4, 5, 6, 7, 0] rfl ?_
          exact hJ10 x6
      refine sim_icmp_eq (tgt := 91) dX11_referElsewhere_84 (by decide) (fun c19 => ?_) (fun c19 => ?_)
      · refine sim_iconst (v := 0) (by decide) dX11_referElsewhere_91 ?_
        exact hJ8 (0 : Int32)
      · refine sim_iconst (v := 1) (by decide) dX11_referElsewhere_87 ?_
        refine sim_goto (tgt := 92) dX11_referElsewhere_88 (by decide) ?_
        exact hJ8 (1 : Int32)
    refine sim_if_ne (tgt := 82) dX11_referElsewhere_74 (by decide) (fun c20 => ?_) (fun c20 => ?_)
    · refine sim_iload 5 rfl dX11_referElsewhere_82 ?_
      exact hJ6 x5
    · refine sim_iload 4 rfl dX11_referElsewhere_77 ?_
      refine sim_goto (tgt := 84) dX11_referElsewhere_79 (by decide) ?_
      exact hJ6 x4
theorem sX11_referElsewhere_l65 {x1 : Int32} {x2 : Int32} {x3 : Int32} {x4 : Int32} {x5 : Int32} : ∀ (n : Nat) (x6 : Int32) (h : AH), Sim RX11 cX11_referElsewhere 9 none 3 (Option.map oV) (fX11_referElsewhere_l65 x1 x2 x3 x4 x5 n x6 h) 65 [(0, .ref 0), (1, .int x1), (2, .int x2), (3, .int x3), (4, .int x4), (5, .int x5), (6, .int x6)] [] h := by
  intro n
  induction n with
  | zero => intro x6 h; exact sim_none
  | succ n ih => intro x6 h; exact sX11_referElsewhere_l65b ih x6 h
def fX11_referElsewhere (p1 : Int32) (p2 : Int32) (h : AH) : Option AH :=
  if (fX11_at 8 p1 h) = 0 then
    some h
  else
    letT (letT (fX11_at 10 p1 h) (fun v3 =>
      fX11_referElsewhere_l65 p1 p2 (fX11_at 8 p1 h) (fX11_at 9 p1 h) v3 fuel0 (0 : Int32) h)) (fun J2 =>
    if p2 = (1 : Int32) then
      if (fX11_at 8 p1 h) < (3 : Int32) then
        some h
      else
        J2
    else
      J2)
theorem sX11_referElsewhere (p1 : Int32) (p2 : Int32) (h : AH) : Sim RX11 cX11_referElsewhere 9 none 3 (Option.map oV) (fX11_referElsewhere p1 p2 h) 0 [(0, .ref 0), (1, .int p1), (2, .int p2)] [] h := by
  unfold fX11_referElsewhere
  refine sim_aload_n 0 rfl dX11_referElsewhere_0 ?_
  refine sim_getR flX11_19 rfl rfl dX11_referElsewhere_1 ?_
  refine sim_getR flX11_133 rfl rfl dX11_referElsewhere_4 ?_
  refine sim_getR flX11_161 rfl rfl dX11_referElsewhere_7 ?_
  refine sim_iload_n 1 rfl dX11_referElsewhere_10 ?_
  refine sim_cS (As := [.ref 8, .int p1]) (st := []) (r := (some (.int (fX11_at 8 p1 h)))) (h1 := h) (okX11_at 8 rfl p1 h) (fun _ => rfl) mlX11_164 mtX11_at rfl (Nat.le_of_ble_eq_true rfl) rfl (Nat.le_of_ble_eq_true rfl) dX11_referElsewhere_11 ?_
  refine sim_istore_n (L' := [(3, .int (fX11_at 8 p1 h)), (0, .ref 0), (1, .int p1), (2, .int p2)]) rfl (by decide) dX11_referElsewhere_14 ?_
  refine sim_iload_n 0 rfl dX11_referElsewhere_15 ?_
  refine sim_if_eq (tgt := 29) dX11_referElsewhere_16 (by decide) (fun c1 => ?_) (fun c1 => ?_)
  · exact sim_vret rfl rfl dX11_referElsewhere_29
  · refine sim_iload_n 3 rfl dX11_referElsewhere_19 ?_
    refine sim_iconst (v := 1) (by decide) dX11_referElsewhere_20 ?_
    refine sim_letJ (fun J2 => Sim RX11 cX11_referElsewhere 9 none 3 (Option.map oV) (J2) 30 [(0, .ref 0), (1, .int p1), (2, .int p2), (3, .int (fX11_at 8 p1 h))] [] h) (?_) (fun J2 hJ2 => ?_)
    · refine sim_aload_n 0 rfl dX11_referElsewhere_30 ?_
      refine sim_getR flX11_19 rfl rfl dX11_referElsewhere_31 ?_
      refine sim_getR flX11_133 rfl rfl dX11_referElsewhere_34 ?_
      refine sim_getR flX11_168 rfl rfl dX11_referElsewhere_37 ?_
      refine sim_iload_n 1 rfl dX11_referElsewhere_40 ?_
      refine sim_cS (As := [.ref 9, .int p1]) (st := []) (r := (some (.int (fX11_at 9 p1 h)))) (h1 := h) (okX11_at 9 rfl p1 h) (fun _ => rfl) mlX11_164 mtX11_at rfl (Nat.le_of_ble_eq_true rfl) rfl (Nat.le_of_ble_eq_true rfl) dX11_referElsewhere_41 ?_
      refine sim_istore (L' := [(4, .int (fX11_at 9 p1 h)), (0, .ref 0), (1, .int p1), (2, .int p2), (3, .int (fX11_at 8 p1 h))]) rfl (by decide) dX11_referElsewhere_44 ?_
      refine sim_aload_n 1 rfl dX11_referElsewhere_46 ?_
      refine sim_getR flX11_19 rfl rfl dX11_referElsewhere_47 ?_
      refine sim_getR flX11_133 rfl rfl dX11_referElsewhere_50 ?_
      refine sim_getR flX11_171 rfl rfl dX11_referElsewhere_53 ?_
      refine sim_iload_n 2 rfl dX11_referElsewhere_56 ?_
      refine sim_cS (As := [.ref 10, .int p1]) (st := []) (r := (some (.int (fX11_at 10 p1 h)))) (h1 := h) (okX11_at 10 rfl p1 h) (fun _ => rfl) mlX11_164 mtX11_at rfl (Nat.le_of_ble_eq_true rfl) rfl (Nat.le_of_ble_eq_true rfl) dX11_referElsewhere_57 ?_
      refine sim_nmI (fun v3 => ?_)
      refine sim_istore (L' := [(5, .int v3), (4, .int (fX11_at 9 p1 h)), (0, .ref 0), (1, .int p1), (2, .int p2), (3, .int (fX11_at 8 p1 h))]) rfl (by decide) dX11_referElsewhere_60 ?_
      refine sim_iconst (v := 0) (by decide) dX11_referElsewhere_62 ?_
      refine sim_istore (L' := [(6, .int (0 : Int32)), (5, .int v3), (4, .int (fX11_at 9 p1 h)), (0, .ref 0), (1, .int p1), (2, .int p2), (3, .int (fX11_at 8 p1 h))]) rfl (by decide) dX11_referElsewhere_63 ?_
      refine sim_sub [3, 4, 5, 6, 2, 1, 0] rfl ?_
      refine sX11_referElsewhere_l65 _ (0 : Int32) h
    refine sim_icmp_ne (tgt := 30) dX11_referElsewhere_21 (by decide) (fun c21 => ?_) (fun c21 => ?_)
    · refine sim_sub [1, 2, 3, 0] rfl ?_
      exact hJ2
    · refine sim_iload_n 0 rfl dX11_referElsewhere_24 ?_
      refine sim_iconst (v := 3) (by decide) dX11_referElsewhere_25 ?_
      refine sim_icmp_ge (tgt := 30) dX11_referElsewhere_26 (by decide) (fun c22 => ?_) (fun c22 => ?_)
      · refine sim_sub [1, 2, 3, 0] rfl ?_
        exact hJ2
      · exact sim_vret rfl rfl dX11_referElsewhere_29
theorem okX11_referElsewhere (p1 : Int32) (p2 : Int32) (h : AH) (b : AH) (e : fX11_referElsewhere p1 p2 h = some b) : Ok yX11_referElsewhere cX11_referElsewhere 9 none 3 [.ref 0, .int p1, .int p2] h (none, b) := ok_of (sX11_referElsewhere p1 p2 h) (by rw [e]; rfl) (by decide +kernel) (Nat.le_of_ble_eq_true rfl)
end
