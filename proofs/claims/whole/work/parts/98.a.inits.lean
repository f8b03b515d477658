/-! ===== the constructors ===== -/
def cellsX10 (cA : Nat → ClassId) (h0 : Nat) : List va_E := .inr (10, [.ref (h0 + 1), .int (0), .int (0), .int (-1), .int (0), .int (0)]) :: [.inl (cA 0, 220, .inl (fun _ => 0))]
set_option maxRecDepth 20000 in
theorem ciX10 (cA : Nat → ClassId) (h0 : Nat) : CMet yX10_init cX10_init 1 1 1 220 cA h0 [] [.inr (10, [.null, .int 0, .int 0, .int 0, .int 0, .int 0])] (cellsX10 cA h0) := by
  refine c_of ?_ (by decide) rfl (Nat.le_of_ble_eq_true rfl)
  refine c_aload_n 0 rfl dX10_init_0 ?_
  refine c_obj oiX10_3 oi_2 oi_3 (by decide) (Nat.le_of_ble_eq_true rfl) dX10_init_1 ?_
  refine c_aload_n 0 rfl dX10_init_4 ?_
  refine c_sipush (v := 220) (by decide) dX10_init_5 ?_
  refine c_newI (N := 220) (mc' := 1) (ms' := 220) (es' := .inr (10, [.null, .int 0, .int 0, .int 0, .int 0, .int 0]) :: [.inl (cA 0, 220, .inl (fun _ => 0))]) (h0 + 1) rfl rfl ac_int (by decide) (by decide) (by decide) (by decide) dX10_init_8 ?_
  refine c_put (fs := [.null, .int 0, .int 0, .int 0, .int 0, .int 0]) (fs' := [.ref (h0 + 1), .int 0, .int 0, .int 0, .int 0, .int 0]) (rest := [.inl (cA 0, 220, .inl (fun _ => 0))]) rfl fpcX10_9 (by rfl) (by rfl) (Nat.le_of_ble_eq_true rfl) rfl dX10_init_10 ?_
  refine c_aload_n 0 rfl dX10_init_13 ?_
  refine c_iconst (v := 0) (by decide) dX10_init_14 ?_
  refine c_put (fs := [.ref (h0 + 1), .int 0, .int 0, .int 0, .int 0, .int 0]) (fs' := [.ref (h0 + 1), .int (0), .int 0, .int 0, .int 0, .int 0]) (rest := [.inl (cA 0, 220, .inl (fun _ => 0))]) rfl fpcX10_15 (by rfl) (by rfl) (Nat.le_of_ble_eq_true rfl) rfl dX10_init_15 ?_
  refine c_aload_n 0 rfl dX10_init_18 ?_
  refine c_iconst (v := 0) (by decide) dX10_init_19 ?_
  refine c_put (fs := [.ref (h0 + 1), .int (0), .int 0, .int 0, .int 0, .int 0]) (fs' := [.ref (h0 + 1), .int (0), .int (0), .int 0, .int 0, .int 0]) (rest := [.inl (cA 0, 220, .inl (fun _ => 0))]) rfl fpcX10_19 (by rfl) (by rfl) (Nat.le_of_ble_eq_true rfl) rfl dX10_init_20 ?_
  refine c_aload_n 0 rfl dX10_init_23 ?_
  refine c_iconst (v := -1) (by decide) dX10_init_24 ?_
  refine c_put (fs := [.ref (h0 + 1), .int (0), .int (0), .int 0, .int 0, .int 0]) (fs' := [.ref (h0 + 1), .int (0), .int (0), .int (-1), .int 0, .int 0]) (rest := [.inl (cA 0, 220, .inl (fun _ => 0))]) rfl fpcX10_22 (by rfl) (by rfl) (Nat.le_of_ble_eq_true rfl) rfl dX10_init_25 ?_
  refine c_aload_n 0 rfl dX10_init_28 ?_
  refine c_iconst (v := 0) (by decide) dX10_init_29 ?_
  refine c_put (fs := [.ref (h0 + 1), .int (0), .int (0), .int (-1), .int 0, .int 0]) (fs' := [.ref (h0 + 1), .int (0), .int (0), .int (-1), .int (0), .int 0]) (rest := [.inl (cA 0, 220, .inl (fun _ => 0))]) rfl fpcX10_25 (by rfl) (by rfl) (Nat.le_of_ble_eq_true rfl) rfl dX10_init_30 ?_
  refine c_aload_n 0 rfl dX10_init_33 ?_
  refine c_iconst (v := 0) (by decide) dX10_init_34 ?_
  refine c_put (fs := [.ref (h0 + 1), .int (0), .int (0), .int (-1), .int (0), .int 0]) (fs' := [.ref (h0 + 1), .int (0), .int (0), .int (-1), .int (0), .int (0)]) (rest := [.inl (cA 0, 220, .inl (fun _ => 0))]) rfl fpcX10_28 (by rfl) (by rfl) (Nat.le_of_ble_eq_true rfl) rfl dX10_init_35 ?_
  exact c_ret rfl rfl rfl dX10_init_38
def cellsX6 (cA : Nat → ClassId) (h0 : Nat) : List va_E := .inr (6, [.int (0), .ref (h0 + 1), .ref (h0 + 2), .ref (h0 + 3), .ref (h0 + 4), .ref (h0 + 5), .ref (h0 + 6), .ref (h0 + 7)]) :: [.inl (cA 0, 20, .inl (fun _ => 0)), .inl (cA 0, 20, .inl (fun _ => 0)), .inl (cA 0, 20, .inl (fun _ => 0)), .inl (cA 0, 20, .inl (fun _ => 0)), .inl (cA 0, 20, .inl (fun _ => 0)), .inl (cA 0, 20, .inl (fun _ => 0)), .inl (cA 0, 20, .inl (fun _ => 0))]
set_option maxRecDepth 20000 in
theorem ciX6 (cA : Nat → ClassId) (h0 : Nat) : CMet yX6_init cX6_init 1 1 7 140 cA h0 [] [.inr (6, [.int 0, .null, .null, .null, .null, .null, .null, .null])] (cellsX6 cA h0) := by
  refine c_of ?_ (by decide) rfl (Nat.le_of_ble_eq_true rfl)
  refine c_aload_n 0 rfl dX6_init_0 ?_
  refine c_obj oiX6_3 oi_2 oi_3 (by decide) (Nat.le_of_ble_eq_true rfl) dX6_init_1 ?_
  refine c_aload_n 0 rfl dX6_init_4 ?_
  refine c_iconst (v := 0) (by decide) dX6_init_5 ?_
  refine c_put (fs := [.int 0, .null, .null, .null, .null, .null, .null, .null]) (fs' := [.int (0), .null, .null, .null, .null, .null, .null, .null]) (rest := []) rfl fpcX6_9 (by rfl) (by rfl) (Nat.le_of_ble_eq_true rfl) rfl dX6_init_6 ?_
  refine c_aload_n 0 rfl dX6_init_9 ?_
  refine c_bipush (v := 20) (by decide) dX6_init_10 ?_
  refine c_newI (N := 20) (mc' := 1) (ms' := 20) (es' := .inr (6, [.int (0), .null, .null, .null, .null, .null, .null, .null]) :: [.inl (cA 0, 20, .inl (fun _ => 0))]) (h0 + 1) rfl rfl ac_int (by decide) (by decide) (by decide) (by decide) dX6_init_12 ?_
  refine c_put (fs := [.int (0), .null, .null, .null, .null, .null, .null, .null]) (fs' := [.int (0), .ref (h0 + 1), .null, .null, .null, .null, .null, .null]) (rest := [.inl (cA 0, 20, .inl (fun _ => 0))]) rfl fpcX6_15 (by rfl) (by rfl) (Nat.le_of_ble_eq_true rfl) rfl dX6_init_14 ?_
  refine c_aload_n 0 rfl dX6_init_17 ?_
  refine c_bipush (v := 20) (by decide) dX6_init_18 ?_
  refine c_newI (N := 20) (mc' := 2) (ms' := 40) (es' := .inr (6, [.int (0), .ref (h0 + 1), .null, .null, .null, .null, .null, .null]) :: [.inl (cA 0, 20, .inl (fun _ => 0)), .inl (cA 0, 20, .inl (fun _ => 0))]) (h0 + 2) rfl rfl ac_int (by decide) (by decide) (by decide) (by decide) dX6_init_20 ?_
  refine c_put (fs := [.int (0), .ref (h0 + 1), .null, .null, .null, .null, .null, .null]) (fs' := [.int (0), .ref (h0 + 1), .ref (h0 + 2), .null, .null, .null, .null, .null]) (rest := [.inl (cA 0, 20, .inl (fun _ => 0)), .inl (cA 0, 20, .inl (fun _ => 0))]) rfl fpcX6_19 (by rfl) (by rfl) (Nat.le_of_ble_eq_true rfl) rfl dX6_init_22 ?_
  refine c_aload_n 0 rfl dX6_init_25 ?_
  refine c_bipush (v := 20) (by decide) dX6_init_26 ?_
  refine c_newI (N := 20) (mc' := 3) (ms' := 60) (es' := .inr (6, [.int (0), .ref (h0 + 1), .ref (h0 + 2), .null, .null, .null, .null, .null]) :: [.inl (cA 0, 20, .inl (fun _ => 0)), .inl (cA 0, 20, .inl (fun _ => 0)), .inl (cA 0, 20, .inl (fun _ => 0))]) (h0 + 3) rfl rfl ac_int (by decide) (by decide) (by decide) (by decide) dX6_init_28 ?_
  refine c_put (fs := [.int (0), .ref (h0 + 1), .ref (h0 + 2), .null, .null, .null, .null, .null]) (fs' := [.int (0), .ref (h0 + 1), .ref (h0 + 2), .ref (h0 + 3), .null, .null, .null, .null]) (rest := [.inl (cA 0, 20, .inl (fun _ => 0)), .inl (cA 0, 20, .inl (fun _ => 0)), .inl (cA 0, 20, .inl (fun _ => 0))]) rfl fpcX6_22 (by rfl) (by rfl) (Nat.le_of_ble_eq_true rfl) rfl dX6_init_30 ?_
  refine c_aload_n 0 rfl dX6_init_33 ?_
  refine c_bipush (v := 20) (by decide) dX6_init_34 ?_
  refine c_newI (N := 20) (mc' := 4) (ms' := 80) (es' := .inr (6, [.int (0), .ref (h0 + 1), .ref (h0 + 2), .ref (h0 + 3), .null, .null, .null, .null]) :: [.inl (cA 0, 20, .inl (fun _ => 0)), .inl (cA 0, 20, .inl (fun _ => 0)), .inl (cA 0, 20, .inl (fun _ => 0)), .inl (cA 0, 20, .inl (fun _ => 0))]) (h0 + 4) rfl rfl ac_int (by decide) (by decide) (by decide) (by decide) dX6_init_36 ?_
  refine c_put (fs := [.int (0), .ref (h0 + 1), .ref (h0 + 2), .ref (h0 + 3), .null, .null, .null, .null]) (fs' := [.int (0), .ref (h0 + 1), .ref (h0 + 2), .ref (h0 + 3), .ref (h0 + 4), .null, .null, .null]) (rest := [.inl (cA 0, 20, .inl (fun _ => 0)), .inl (cA 0, 20, .inl (fun _ => 0)), .inl (cA 0, 20, .inl (fun _ => 0)), .inl (cA 0, 20, .inl (fun _ => 0))]) rfl fpcX6_25 (by rfl) (by rfl) (Nat.le_of_ble_eq_true rfl) rfl dX6_init_38 ?_
  refine c_aload_n 0 rfl dX6_init_41 ?_
  refine c_bipush (v := 20) (by decide) dX6_init_42 ?_
  refine c_newI (N := 20) (mc' := 5) (ms' := 100) (es' := .inr (6, [.int (0), .ref (h0 + 1), .ref (h0 + 2), .ref (h0 + 3), .ref (h0 + 4), .null, .null, .null]) :: [.inl (cA 0, 20, .inl (fun _ => 0)), .inl (cA 0, 20, .inl (fun _ => 0)), .inl (cA 0, 20, .inl (fun _ => 0)), .inl (cA 0, 20, .inl (fun _ => 0)), .inl (cA 0, 20, .inl (fun _ => 0))]) (h0 + 5) rfl rfl ac_int (by decide) (by decide) (by decide) (by decide) dX6_init_44 ?_
  refine c_put (fs := [.int (0), .ref (h0 + 1), .ref (h0 + 2), .ref (h0 + 3), .ref (h0 + 4), .null, .null, .null]) (fs' := [.int (0), .ref (h0 + 1), .ref (h0 + 2), .ref (h0 + 3), .ref (h0 + 4), .ref (h0 + 5), .null, .null]) (rest := [.inl (cA 0, 20, .inl (fun _ => 0)), .inl (cA 0, 20, .inl (fun _ => 0)), .inl (cA 0, 20, .inl (fun _ => 0)), .inl (cA 0, 20, .inl (fun _ => 0)), .inl (cA 0, 20, .inl (fun _ => 0))]) rfl fpcX6_28 (by rfl) (by rfl) (Nat.le_of_ble_eq_true rfl) rfl dX6_init_46 ?_
  refine c_aload_n 0 rfl dX6_init_49 ?_
  refine c_bipush (v := 20) (by decide) dX6_init_50 ?_
  refine c_newI (N := 20) (mc' := 6) (ms' := 120) (es' := .inr (6, [.int (0), .ref (h0 + 1), .ref (h0 + 2), .ref (h0 + 3), .ref (h0 + 4), .ref (h0 + 5), .null, .null]) :: [.inl (cA 0, 20, .inl (fun _ => 0)), .inl (cA 0, 20, .inl (fun _ => 0)), .inl (cA 0, 20, .inl (fun _ => 0)), .inl (cA 0, 20, .inl (fun _ => 0)), .inl (cA 0, 20, .inl (fun _ => 0)), .inl (cA 0, 20, .inl (fun _ => 0))]) (h0 + 6) rfl rfl ac_int (by decide) (by decide) (by decide) (by decide) dX6_init_52 ?_
  refine c_put (fs := [.int (0), .ref (h0 + 1), .ref (h0 + 2), .ref (h0 + 3), .ref (h0 + 4), .ref (h0 + 5), .null, .null]) (fs' := [.int (0), .ref (h0 + 1), .ref (h0 + 2), .ref (h0 + 3), .ref (h0 + 4), .ref (h0 + 5), .ref (h0 + 6), .null]) (rest := [.inl (cA 0, 20, .inl (fun _ => 0)), .inl (cA 0, 20, .inl (fun _ => 0)), .inl (cA 0, 20, .inl (fun _ => 0)), .inl (cA 0, 20, .inl (fun _ => 0)), .inl (cA 0, 20, .inl (fun _ => 0)), .inl (cA 0, 20, .inl (fun _ => 0))]) rfl fpcX6_31 (by rfl) (by rfl) (Nat.le_of_ble_eq_true rfl) rfl dX6_init_54 ?_
  refine c_aload_n 0 rfl dX6_init_57 ?_
  refine c_bipush (v := 20) (by decide) dX6_init_58 ?_
  refine c_newI (N := 20) (mc' := 7) (ms' := 140) (es' := .inr (6, [.int (0), .ref (h0 + 1), .ref (h0 + 2), .ref (h0 + 3), .ref (h0 + 4), .ref (h0 + 5), .ref (h0 + 6), .null]) :: [.inl (cA 0, 20, .inl (fun _ => 0)), .inl (cA 0, 20, .inl (fun _ => 0)), .inl (cA 0, 20, .inl (fun _ => 0)), .inl (cA 0, 20, .inl (fun _ => 0)), .inl (cA 0, 20, .inl (fun _ => 0)), .inl (cA 0, 20, .inl (fun _ => 0)), .inl (cA 0, 20, .inl (fun _ => 0))]) (h0 + 7) rfl rfl ac_int (by decide) (by decide) (by decide) (by decide) dX6_init_60 ?_
  refine c_put (fs := [.int (0), .ref (h0 + 1), .ref (h0 + 2), .ref (h0 + 3), .ref (h0 + 4), .ref (h0 + 5), .ref (h0 + 6), .null]) (fs' := [.int (0), .ref (h0 + 1), .ref (h0 + 2), .ref (h0 + 3), .ref (h0 + 4), .ref (h0 + 5), .ref (h0 + 6), .ref (h0 + 7)]) (rest := [.inl (cA 0, 20, .inl (fun _ => 0)), .inl (cA 0, 20, .inl (fun _ => 0)), .inl (cA 0, 20, .inl (fun _ => 0)), .inl (cA 0, 20, .inl (fun _ => 0)), .inl (cA 0, 20, .inl (fun _ => 0)), .inl (cA 0, 20, .inl (fun _ => 0)), .inl (cA 0, 20, .inl (fun _ => 0))]) rfl fpcX6_34 (by rfl) (by rfl) (Nat.le_of_ble_eq_true rfl) rfl dX6_init_62 ?_
  exact c_ret rfl rfl rfl dX6_init_65
def cellsX9 (cA : Nat → ClassId) (h0 : Nat) : List va_E := .inr (9, [.int (97), .int (1), .ref (h0 + 1), .ref (h0 + 2), .ref (h0 + 3)]) :: ([.inl (cA 0, 10, .inl (fun _ => 0)), .inl (cA 0, 8, .inl (fun _ => 0))] ++ cellsX6 cA (h0 + 3))
set_option maxRecDepth 20000 in
theorem ciX9 (cA : Nat → ClassId) (h0 : Nat) : CMet yX9_init cX9_init 1 2 10 166 cA h0 [] [.inr (9, [.int 0, .int 0, .null, .null, .null])] (cellsX9 cA h0) := by
  refine c_of ?_ (by decide) rfl (Nat.le_of_ble_eq_true rfl)
  refine c_aload_n 0 rfl dX9_init_0 ?_
  refine c_obj oiX9_3 oi_2 oi_3 (by decide) (Nat.le_of_ble_eq_true rfl) dX9_init_1 ?_
  refine c_aload_n 0 rfl dX9_init_4 ?_
  refine c_bipush (v := 97) (by decide) dX9_init_5 ?_
  refine c_put (fs := [.int 0, .int 0, .null, .null, .null]) (fs' := [.int (97), .int 0, .null, .null, .null]) (rest := []) rfl fpcX9_9 (by rfl) (by rfl) (Nat.le_of_ble_eq_true rfl) rfl dX9_init_7 ?_
  refine c_aload_n 0 rfl dX9_init_10 ?_
  refine c_iconst (v := 1) (by decide) dX9_init_11 ?_
  refine c_put (fs := [.int (97), .int 0, .null, .null, .null]) (fs' := [.int (97), .int (1), .null, .null, .null]) (rest := []) rfl fpcX9_15 (by rfl) (by rfl) (Nat.le_of_ble_eq_true rfl) rfl dX9_init_12 ?_
  refine c_aload_n 0 rfl dX9_init_15 ?_
  refine c_bipush (v := 10) (by decide) dX9_init_16 ?_
  refine c_newI (N := 10) (mc' := 1) (ms' := 10) (es' := .inr (9, [.int (97), .int (1), .null, .null, .null]) :: [.inl (cA 0, 10, .inl (fun _ => 0))]) (h0 + 1) rfl rfl ac_int (by decide) (by decide) (by decide) (by decide) dX9_init_18 ?_
  refine c_put (fs := [.int (97), .int (1), .null, .null, .null]) (fs' := [.int (97), .int (1), .ref (h0 + 1), .null, .null]) (rest := [.inl (cA 0, 10, .inl (fun _ => 0))]) rfl fpcX9_18 (by rfl) (by rfl) (Nat.le_of_ble_eq_true rfl) rfl dX9_init_20 ?_
  refine c_aload_n 0 rfl dX9_init_23 ?_
  refine c_bipush (v := 8) (by decide) dX9_init_24 ?_
  refine c_newI (N := 8) (mc' := 2) (ms' := 18) (es' := .inr (9, [.int (97), .int (1), .ref (h0 + 1), .null, .null]) :: [.inl (cA 0, 10, .inl (fun _ => 0)), .inl (cA 0, 8, .inl (fun _ => 0))]) (h0 + 2) rfl rfl ac_int (by decide) (by decide) (by decide) (by decide) dX9_init_26 ?_
  refine c_put (fs := [.int (97), .int (1), .ref (h0 + 1), .null, .null]) (fs' := [.int (97), .int (1), .ref (h0 + 1), .ref (h0 + 2), .null]) (rest := [.inl (cA 0, 10, .inl (fun _ => 0)), .inl (cA 0, 8, .inl (fun _ => 0))]) rfl fpcX9_22 (by rfl) (by rfl) (Nat.le_of_ble_eq_true rfl) rfl dX9_init_28 ?_
  refine c_aload_n 0 rfl dX9_init_31 ?_
  refine c_new' (ci := 6) (N := 8) (mc' := 3) (ms' := 26) (es' := .inr (9, [.int (97), .int (1), .ref (h0 + 1), .ref (h0 + 2), .null]) :: [.inl (cA 0, 10, .inl (fun _ => 0)), .inl (cA 0, 8, .inl (fun _ => 0)), .inr (6, [.int 0, .null, .null, .null, .null, .null, .null, .null])]) (h0 + 3) tyX6 rfl rfl rfl tyX6_ok (by decide +kernel) clX9_25 insX6 iniX6 (by decide) (by decide) dX9_init_32 ?_
  refine c_dup dX9_init_35 rfl ?_
  refine c_call' (mc' := 10) (ms' := 166) (es' := .inr (9, [.int (97), .int (1), .ref (h0 + 1), .ref (h0 + 2), .null]) :: ([.inl (cA 0, 10, .inl (fun _ => 0)), .inl (cA 0, 8, .inl (fun _ => 0))] ++ cellsX6 cA (h0 + 3))) (As := []) (h0 + 3) (.inr (9, [.int (97), .int (1), .ref (h0 + 1), .ref (h0 + 2), .null]) :: [.inl (cA 0, 10, .inl (fun _ => 0)), .inl (cA 0, 8, .inl (fun _ => 0))]) (.inr (6, [.int 0, .null, .null, .null, .null, .null, .null, .null])) (ciX6 cA (h0 + 3)) rfl rfl rfl miX9_27 mwX6_init imX6_init rfl rfl (by decide) rfl (Nat.le_of_ble_eq_true rfl) (by decide) (by decide) dX9_init_36 ?_
  refine c_put (fs := [.int (97), .int (1), .ref (h0 + 1), .ref (h0 + 2), .null]) (fs' := [.int (97), .int (1), .ref (h0 + 1), .ref (h0 + 2), .ref (h0 + 3)]) (rest := ([.inl (cA 0, 10, .inl (fun _ => 0)), .inl (cA 0, 8, .inl (fun _ => 0))] ++ cellsX6 cA (h0 + 3))) rfl fpcX9_28 (by rfl) (by rfl) (Nat.le_of_ble_eq_true rfl) rfl dX9_init_39 ?_
  exact c_ret rfl rfl rfl dX9_init_42
def cellsX7 (cA : Nat → ClassId) (h0 : Nat) (a1 : Nat) : List va_E := .inr (7, [.ref (h0 + 1), .ref a1]) :: cellsX6 cA (h0 + 1)
set_option maxRecDepth 20000 in
theorem ciX7 (cA : Nat → ClassId) (h0 : Nat) (a1 : Nat) : CMet yX7_init cX7_init 2 2 8 148 cA h0 [.ref a1] [.inr (7, [.null, .null])] (cellsX7 cA h0 a1) := by
  refine c_of ?_ (by decide) rfl (Nat.le_of_ble_eq_true rfl)
  refine c_aload_n 0 rfl dX7_init_0 ?_
  refine c_obj oiX7_3 oi_2 oi_3 (by decide) (Nat.le_of_ble_eq_true rfl) dX7_init_1 ?_
  refine c_aload_n 0 rfl dX7_init_4 ?_
  refine c_new' (ci := 6) (N := 8) (mc' := 1) (ms' := 8) (es' := .inr (7, [.null, .null]) :: [.inr (6, [.int 0, .null, .null, .null, .null, .null, .null, .null])]) (h0 + 1) tyX6 rfl rfl rfl tyX6_ok (by decide +kernel) clX7_9 insX6 iniX6 (by decide) (by decide) dX7_init_5 ?_
  refine c_dup dX7_init_8 rfl ?_
  refine c_call' (mc' := 8) (ms' := 148) (es' := .inr (7, [.null, .null]) :: cellsX6 cA (h0 + 1)) (As := []) (h0 + 1) (.inr (7, [.null, .null]) :: []) (.inr (6, [.int 0, .null, .null, .null, .null, .null, .null, .null])) (ciX6 cA (h0 + 1)) rfl rfl rfl miX7_11 mwX6_init imX6_init rfl rfl (by decide) rfl (Nat.le_of_ble_eq_true rfl) (by decide) (by decide) dX7_init_9 ?_
  refine c_put (fs := [.null, .null]) (fs' := [.ref (h0 + 1), .null]) (rest := cellsX6 cA (h0 + 1)) rfl fpcX7_12 (by rfl) (by rfl) (Nat.le_of_ble_eq_true rfl) rfl dX7_init_12 ?_
  refine c_aload_n 0 rfl dX7_init_15 ?_
  refine c_aload_n 1 rfl dX7_init_16 ?_
  refine c_put (fs := [.ref (h0 + 1), .null]) (fs' := [.ref (h0 + 1), .ref a1]) (rest := cellsX6 cA (h0 + 1)) rfl fpcX7_18 (by rfl) (by rfl) (Nat.le_of_ble_eq_true rfl) rfl dX7_init_17 ?_
  exact c_ret rfl rfl rfl dX7_init_20
def cellsX4 (cA : Nat → ClassId) (h0 : Nat) : List va_E := .inr (4, [.int (0), .int (0), .int (0), .int (0), .int (0), .ref (h0 + 1), .ref (h0 + 2), .ref (h0 + 3), .ref (h0 + 4), .ref (h0 + 5), .ref (h0 + 6)]) :: [.inl (cA 0, 200, .inl (fun _ => 0)), .inl (cA 0, 14, .inl (fun _ => 0)), .inl (cA 0, 15, .inl (fun _ => 0)), .inl (cA 0, 14, .inl (fun _ => 0)), .inl (cA 0, 8, .inl (fun _ => 0)), .inl (cA 0, 32, .inl (fun _ => 0))]
set_option maxRecDepth 20000 in
theorem ciX4 (cA : Nat → ClassId) (h0 : Nat) : CMet yX4_init cX4_init 1 1 6 283 cA h0 [] [.inr (4, [.int 0, .int 0, .int 0, .int 0, .int 0, .null, .null, .null, .null, .null, .null])] (cellsX4 cA h0) := by
  refine c_of ?_ (by decide) rfl (Nat.le_of_ble_eq_true rfl)
  refine c_aload_n 0 rfl dX4_init_0 ?_
  refine c_obj oiX4_3 oi_2 oi_3 (by decide) (Nat.le_of_ble_eq_true rfl) dX4_init_1 ?_
  refine c_aload_n 0 rfl dX4_init_4 ?_
  refine c_iconst (v := 0) (by decide) dX4_init_5 ?_
  refine c_put (fs := [.int 0, .int 0, .int 0, .int 0, .int 0, .null, .null, .null, .null, .null, .null]) (fs' := [.int (0), .int 0, .int 0, .int 0, .int 0, .null, .null, .null, .null, .null, .null]) (rest := []) rfl fpcX4_9 (by rfl) (by rfl) (Nat.le_of_ble_eq_true rfl) rfl dX4_init_6 ?_
  refine c_aload_n 0 rfl dX4_init_9 ?_
  refine c_iconst (v := 0) (by decide) dX4_init_10 ?_
  refine c_put (fs := [.int (0), .int 0, .int 0, .int 0, .int 0, .null, .null, .null, .null, .null, .null]) (fs' := [.int (0), .int (0), .int 0, .int 0, .int 0, .null, .null, .null, .null, .null, .null]) (rest := []) rfl fpcX4_15 (by rfl) (by rfl) (Nat.le_of_ble_eq_true rfl) rfl dX4_init_11 ?_
  refine c_aload_n 0 rfl dX4_init_14 ?_
  refine c_iconst (v := 0) (by decide) dX4_init_15 ?_
  refine c_put (fs := [.int (0), .int (0), .int 0, .int 0, .int 0, .null, .null, .null, .null, .null, .null]) (fs' := [.int (0), .int (0), .int (0), .int 0, .int 0, .null, .null, .null, .null, .null, .null]) (rest := []) rfl fpcX4_19 (by rfl) (by rfl) (Nat.le_of_ble_eq_true rfl) rfl dX4_init_16 ?_
  refine c_aload_n 0 rfl dX4_init_19 ?_
  refine c_iconst (v := 0) (by decide) dX4_init_20 ?_
  refine c_put (fs := [.int (0), .int (0), .int (0), .int 0, .int 0, .null, .null, .null, .null, .null, .null]) (fs' := [.int (0), .int (0), .int (0), .int (0), .int 0, .null, .null, .null, .null, .null, .null]) (rest := []) rfl fpcX4_22 (by rfl) (by rfl) (Nat.le_of_ble_eq_true rfl) rfl dX4_init_21 ?_
  refine c_aload_n 0 rfl dX4_init_24 ?_
  refine c_iconst (v := 0) (by decide) dX4_init_25 ?_
  refine c_put (fs := [.int (0), .int (0), .int (0), .int (0), .int 0, .null, .null, .null, .null, .null, .null]) (fs' := [.int (0), .int (0), .int (0), .int (0), .int (0), .null, .null, .null, .null, .null, .null]) (rest := []) rfl fpcX4_25 (by rfl) (by rfl) (Nat.le_of_ble_eq_true rfl) rfl dX4_init_26 ?_
  refine c_aload_n 0 rfl dX4_init_29 ?_
  refine c_sipush (v := 200) (by decide) dX4_init_30 ?_
  refine c_newI (N := 200) (mc' := 1) (ms' := 200) (es' := .inr (4, [.int (0), .int (0), .int (0), .int (0), .int (0), .null, .null, .null, .null, .null, .null]) :: [.inl (cA 0, 200, .inl (fun _ => 0))]) (h0 + 1) rfl rfl ac_int (by decide) (by decide) (by decide) (by decide) dX4_init_33 ?_
  refine c_put (fs := [.int (0), .int (0), .int (0), .int (0), .int (0), .null, .null, .null, .null, .null, .null]) (fs' := [.int (0), .int (0), .int (0), .int (0), .int (0), .ref (h0 + 1), .null, .null, .null, .null, .null]) (rest := [.inl (cA 0, 200, .inl (fun _ => 0))]) rfl fpcX4_28 (by rfl) (by rfl) (Nat.le_of_ble_eq_true rfl) rfl dX4_init_35 ?_
  refine c_aload_n 0 rfl dX4_init_38 ?_
  refine c_bipush (v := 14) (by decide) dX4_init_39 ?_
  refine c_newI (N := 14) (mc' := 2) (ms' := 214) (es' := .inr (4, [.int (0), .int (0), .int (0), .int (0), .int (0), .ref (h0 + 1), .null, .null, .null, .null, .null]) :: [.inl (cA 0, 200, .inl (fun _ => 0)), .inl (cA 0, 14, .inl (fun _ => 0))]) (h0 + 2) rfl rfl ac_int (by decide) (by decide) (by decide) (by decide) dX4_init_41 ?_
  refine c_put (fs := [.int (0), .int (0), .int (0), .int (0), .int (0), .ref (h0 + 1), .null, .null, .null, .null, .null]) (fs' := [.int (0), .int (0), .int (0), .int (0), .int (0), .ref (h0 + 1), .ref (h0 + 2), .null, .null, .null, .null]) (rest := [.inl (cA 0, 200, .inl (fun _ => 0)), .inl (cA 0, 14, .inl (fun _ => 0))]) rfl fpcX4_32 (by rfl) (by rfl) (Nat.le_of_ble_eq_true rfl) rfl dX4_init_43 ?_
  refine c_aload_n 0 rfl dX4_init_46 ?_
  refine c_bipush (v := 15) (by decide) dX4_init_47 ?_
  refine c_newI (N := 15) (mc' := 3) (ms' := 229) (es' := .inr (4, [.int (0), .int (0), .int (0), .int (0), .int (0), .ref (h0 + 1), .ref (h0 + 2), .null, .null, .null, .null]) :: [.inl (cA 0, 200, .inl (fun _ => 0)), .inl (cA 0, 14, .inl (fun _ => 0)), .inl (cA 0, 15, .inl (fun _ => 0))]) (h0 + 3) rfl rfl ac_int (by decide) (by decide) (by decide) (by decide) dX4_init_49 ?_
  refine c_put (fs := [.int (0), .int (0), .int (0), .int (0), .int (0), .ref (h0 + 1), .ref (h0 + 2), .null, .null, .null, .null]) (fs' := [.int (0), .int (0), .int (0), .int (0), .int (0), .ref (h0 + 1), .ref (h0 + 2), .ref (h0 + 3), .null, .null, .null]) (rest := [.inl (cA 0, 200, .inl (fun _ => 0)), .inl (cA 0, 14, .inl (fun _ => 0)), .inl (cA 0, 15, .inl (fun _ => 0))]) rfl fpcX4_35 (by rfl) (by rfl) (Nat.le_of_ble_eq_true rfl) rfl dX4_init_51 ?_
  refine c_aload_n 0 rfl dX4_init_54 ?_
  refine c_bipush (v := 14) (by decide) dX4_init_55 ?_
  refine c_newI (N := 14) (mc' := 4) (ms' := 243) (es' := .inr (4, [.int (0), .int (0), .int (0), .int (0), .int (0), .ref (h0 + 1), .ref (h0 + 2), .ref (h0 + 3), .null, .null, .null]) :: [.inl (cA 0, 200, .inl (fun _ => 0)), .inl (cA 0, 14, .inl (fun _ => 0)), .inl (cA 0, 15, .inl (fun _ => 0)), .inl (cA 0, 14, .inl (fun _ => 0))]) (h0 + 4) rfl rfl ac_int (by decide) (by decide) (by decide) (by decide) dX4_init_57 ?_
  refine c_put (fs := [.int (0), .int (0), .int (0), .int (0), .int (0), .ref (h0 + 1), .ref (h0 + 2), .ref (h0 + 3), .null, .null, .null]) (fs' := [.int (0), .int (0), .int (0), .int (0), .int (0), .ref (h0 + 1), .ref (h0 + 2), .ref (h0 + 3), .ref (h0 + 4), .null, .null]) (rest := [.inl (cA 0, 200, .inl (fun _ => 0)), .inl (cA 0, 14, .inl (fun _ => 0)), .inl (cA 0, 15, .inl (fun _ => 0)), .inl (cA 0, 14, .inl (fun _ => 0))]) rfl fpcX4_38 (by rfl) (by rfl) (Nat.le_of_ble_eq_true rfl) rfl dX4_init_59 ?_
  refine c_aload_n 0 rfl dX4_init_62 ?_
  refine c_bipush (v := 8) (by decide) dX4_init_63 ?_
  refine c_newI (N := 8) (mc' := 5) (ms' := 251) (es' := .inr (4, [.int (0), .int (0), .int (0), .int (0), .int (0), .ref (h0 + 1), .ref (h0 + 2), .ref (h0 + 3), .ref (h0 + 4), .null, .null]) :: [.inl (cA 0, 200, .inl (fun _ => 0)), .inl (cA 0, 14, .inl (fun _ => 0)), .inl (cA 0, 15, .inl (fun _ => 0)), .inl (cA 0, 14, .inl (fun _ => 0)), .inl (cA 0, 8, .inl (fun _ => 0))]) (h0 + 5) rfl rfl ac_int (by decide) (by decide) (by decide) (by decide) dX4_init_65 ?_
  refine c_put (fs := [.int (0), .int (0), .int (0), .int (0), .int (0), .ref (h0 + 1), .ref (h0 + 2), .ref (h0 + 3), .ref (h0 + 4), .null, .null]) (fs' := [.int (0), .int (0), .int (0), .int (0), .int (0), .ref (h0 + 1), .ref (h0 + 2), .ref (h0 + 3), .ref (h0 + 4), .ref (h0 + 5), .null]) (rest := [.inl (cA 0, 200, .inl (fun _ => 0)), .inl (cA 0, 14, .inl (fun _ => 0)), .inl (cA 0, 15, .inl (fun _ => 0)), .inl (cA 0, 14, .inl (fun _ => 0)), .inl (cA 0, 8, .inl (fun _ => 0))]) rfl fpcX4_41 (by rfl) (by rfl) (Nat.le_of_ble_eq_true rfl) rfl dX4_init_67 ?_
  refine c_aload_n 0 rfl dX4_init_70 ?_
  refine c_bipush (v := 32) (by decide) dX4_init_71 ?_
  refine c_newI (N := 32) (mc' := 6) (ms' := 283) (es' := .inr (4, [.int (0), .int (0), .int (0), .int (0), .int (0), .ref (h0 + 1), .ref (h0 + 2), .ref (h0 + 3), .ref (h0 + 4), .ref (h0 + 5), .null]) :: [.inl (cA 0, 200, .inl (fun _ => 0)), .inl (cA 0, 14, .inl (fun _ => 0)), .inl (cA 0, 15, .inl (fun _ => 0)), .inl (cA 0, 14, .inl (fun _ => 0)), .inl (cA 0, 8, .inl (fun _ => 0)), .inl (cA 0, 32, .inl (fun _ => 0))]) (h0 + 6) rfl rfl ac_int (by decide) (by decide) (by decide) (by decide) dX4_init_73 ?_
  refine c_put (fs := [.int (0), .int (0), .int (0), .int (0), .int (0), .ref (h0 + 1), .ref (h0 + 2), .ref (h0 + 3), .ref (h0 + 4), .ref (h0 + 5), .null]) (fs' := [.int (0), .int (0), .int (0), .int (0), .int (0), .ref (h0 + 1), .ref (h0 + 2), .ref (h0 + 3), .ref (h0 + 4), .ref (h0 + 5), .ref (h0 + 6)]) (rest := [.inl (cA 0, 200, .inl (fun _ => 0)), .inl (cA 0, 14, .inl (fun _ => 0)), .inl (cA 0, 15, .inl (fun _ => 0)), .inl (cA 0, 14, .inl (fun _ => 0)), .inl (cA 0, 8, .inl (fun _ => 0)), .inl (cA 0, 32, .inl (fun _ => 0))]) rfl fpcX4_44 (by rfl) (by rfl) (Nat.le_of_ble_eq_true rfl) rfl dX4_init_75 ?_
  exact c_ret rfl rfl rfl dX4_init_78
def cellsX5 (cA : Nat → ClassId) (h0 : Nat) (a1 : Nat) : List va_E := .inr (5, [.ref (h0 + 1), .ref a1, .int (0)]) :: cellsX4 cA (h0 + 1)
set_option maxRecDepth 20000 in
theorem ciX5 (cA : Nat → ClassId) (h0 : Nat) (a1 : Nat) : CMet yX5_init cX5_init 2 2 7 294 cA h0 [.ref a1] [.inr (5, [.null, .null, .int 0])] (cellsX5 cA h0 a1) := by
  refine c_of ?_ (by decide) rfl (Nat.le_of_ble_eq_true rfl)
  refine c_aload_n 0 rfl dX5_init_0 ?_
  refine c_obj oiX5_3 oi_2 oi_3 (by decide) (Nat.le_of_ble_eq_true rfl) dX5_init_1 ?_
  refine c_aload_n 0 rfl dX5_init_4 ?_
  refine c_new' (ci := 4) (N := 11) (mc' := 1) (ms' := 11) (es' := .inr (5, [.null, .null, .int 0]) :: [.inr (4, [.int 0, .int 0, .int 0, .int 0, .int 0, .null, .null, .null, .null, .null, .null])]) (h0 + 1) tyX4 rfl rfl rfl tyX4_ok (by decide +kernel) clX5_9 insX4 iniX4 (by decide) (by decide) dX5_init_5 ?_
  refine c_dup dX5_init_8 rfl ?_
  refine c_call' (mc' := 7) (ms' := 294) (es' := .inr (5, [.null, .null, .int 0]) :: cellsX4 cA (h0 + 1)) (As := []) (h0 + 1) (.inr (5, [.null, .null, .int 0]) :: []) (.inr (4, [.int 0, .int 0, .int 0, .int 0, .int 0, .null, .null, .null, .null, .null, .null])) (ciX4 cA (h0 + 1)) rfl rfl rfl miX5_11 mwX4_init imX4_init rfl rfl (by decide) rfl (Nat.le_of_ble_eq_true rfl) (by decide) (by decide) dX5_init_9 ?_
  refine c_put (fs := [.null, .null, .int 0]) (fs' := [.ref (h0 + 1), .null, .int 0]) (rest := cellsX4 cA (h0 + 1)) rfl fpcX5_12 (by rfl) (by rfl) (Nat.le_of_ble_eq_true rfl) rfl dX5_init_12 ?_
  refine c_aload_n 0 rfl dX5_init_15 ?_
  refine c_iconst (v := 0) (by decide) dX5_init_16 ?_
  refine c_put (fs := [.ref (h0 + 1), .null, .int 0]) (fs' := [.ref (h0 + 1), .null, .int (0)]) (rest := cellsX4 cA (h0 + 1)) rfl fpcX5_18 (by rfl) (by rfl) (Nat.le_of_ble_eq_true rfl) rfl dX5_init_17 ?_
  refine c_aload_n 0 rfl dX5_init_20 ?_
  refine c_aload_n 1 rfl dX5_init_21 ?_
  refine c_put (fs := [.ref (h0 + 1), .null, .int (0)]) (fs' := [.ref (h0 + 1), .ref a1, .int (0)]) (rest := cellsX4 cA (h0 + 1)) rfl fpcX5_22 (by rfl) (by rfl) (Nat.le_of_ble_eq_true rfl) rfl dX5_init_22 ?_
  exact c_ret rfl rfl rfl dX5_init_25
def cellsX0 (cA : Nat → ClassId) (h0 : Nat) : List va_E := .inr (0, [.ref (h0 + 1), .ref (h0 + 2), .ref (h0 + 3), .ref (h0 + 4)]) :: [.inl (cA 0, 20, .inl (fun _ => 0)), .inl (cA 0, 20, .inl (fun _ => 0)), .inl (cA 0, 20, .inl (fun _ => 0)), .inl (cA 0, 5, .inl (fun _ => 0))]
set_option maxRecDepth 20000 in
theorem ciX0 (cA : Nat → ClassId) (h0 : Nat) : CMet yX0_init cX0_init 1 1 4 65 cA h0 [] [.inr (0, [.null, .null, .null, .null])] (cellsX0 cA h0) := by
  refine c_of ?_ (by decide) rfl (Nat.le_of_ble_eq_true rfl)
  refine c_aload_n 0 rfl dX0_init_0 ?_
  refine c_obj oiX0_3 oi_2 oi_3 (by decide) (Nat.le_of_ble_eq_true rfl) dX0_init_1 ?_
  refine c_aload_n 0 rfl dX0_init_4 ?_
  refine c_bipush (v := 20) (by decide) dX0_init_5 ?_
  refine c_newI (N := 20) (mc' := 1) (ms' := 20) (es' := .inr (0, [.null, .null, .null, .null]) :: [.inl (cA 0, 20, .inl (fun _ => 0))]) (h0 + 1) rfl rfl ac_int (by decide) (by decide) (by decide) (by decide) dX0_init_7 ?_
  refine c_put (fs := [.null, .null, .null, .null]) (fs' := [.ref (h0 + 1), .null, .null, .null]) (rest := [.inl (cA 0, 20, .inl (fun _ => 0))]) rfl fpcX0_9 (by rfl) (by rfl) (Nat.le_of_ble_eq_true rfl) rfl dX0_init_9 ?_
  refine c_aload_n 0 rfl dX0_init_12 ?_
  refine c_bipush (v := 20) (by decide) dX0_init_13 ?_
  refine c_newI (N := 20) (mc' := 2) (ms' := 40) (es' := .inr (0, [.ref (h0 + 1), .null, .null, .null]) :: [.inl (cA 0, 20, .inl (fun _ => 0)), .inl (cA 0, 20, .inl (fun _ => 0))]) (h0 + 2) rfl rfl ac_int (by decide) (by decide) (by decide) (by decide) dX0_init_15 ?_
  refine c_put (fs := [.ref (h0 + 1), .null, .null, .null]) (fs' := [.ref (h0 + 1), .ref (h0 + 2), .null, .null]) (rest := [.inl (cA 0, 20, .inl (fun _ => 0)), .inl (cA 0, 20, .inl (fun _ => 0))]) rfl fpcX0_15 (by rfl) (by rfl) (Nat.le_of_ble_eq_true rfl) rfl dX0_init_17 ?_
  refine c_aload_n 0 rfl dX0_init_20 ?_
  refine c_bipush (v := 20) (by decide) dX0_init_21 ?_
  refine c_newI (N := 20) (mc' := 3) (ms' := 60) (es' := .inr (0, [.ref (h0 + 1), .ref (h0 + 2), .null, .null]) :: [.inl (cA 0, 20, .inl (fun _ => 0)), .inl (cA 0, 20, .inl (fun _ => 0)), .inl (cA 0, 20, .inl (fun _ => 0))]) (h0 + 3) rfl rfl ac_int (by decide) (by decide) (by decide) (by decide) dX0_init_23 ?_
  refine c_put (fs := [.ref (h0 + 1), .ref (h0 + 2), .null, .null]) (fs' := [.ref (h0 + 1), .ref (h0 + 2), .ref (h0 + 3), .null]) (rest := [.inl (cA 0, 20, .inl (fun _ => 0)), .inl (cA 0, 20, .inl (fun _ => 0)), .inl (cA 0, 20, .inl (fun _ => 0))]) rfl fpcX0_18 (by rfl) (by rfl) (Nat.le_of_ble_eq_true rfl) rfl dX0_init_25 ?_
  refine c_aload_n 0 rfl dX0_init_28 ?_
  refine c_iconst (v := 5) (by decide) dX0_init_29 ?_
  refine c_newI (N := 5) (mc' := 4) (ms' := 65) (es' := .inr (0, [.ref (h0 + 1), .ref (h0 + 2), .ref (h0 + 3), .null]) :: [.inl (cA 0, 20, .inl (fun _ => 0)), .inl (cA 0, 20, .inl (fun _ => 0)), .inl (cA 0, 20, .inl (fun _ => 0)), .inl (cA 0, 5, .inl (fun _ => 0))]) (h0 + 4) rfl rfl ac_int (by decide) (by decide) (by decide) (by decide) dX0_init_30 ?_
  refine c_put (fs := [.ref (h0 + 1), .ref (h0 + 2), .ref (h0 + 3), .null]) (fs' := [.ref (h0 + 1), .ref (h0 + 2), .ref (h0 + 3), .ref (h0 + 4)]) (rest := [.inl (cA 0, 20, .inl (fun _ => 0)), .inl (cA 0, 20, .inl (fun _ => 0)), .inl (cA 0, 20, .inl (fun _ => 0)), .inl (cA 0, 5, .inl (fun _ => 0))]) rfl fpcX0_21 (by rfl) (by rfl) (Nat.le_of_ble_eq_true rfl) rfl dX0_init_32 ?_
  exact c_ret rfl rfl rfl dX0_init_35
def cellsX3 (cA : Nat → ClassId) (h0 : Nat) : List va_E := .inr (3, [.ref (h0 + 1), .ref (h0 + 2), .ref (h0 + 3)]) :: [.inl (cA 2, 41, .inr (.inl (fun _ => 0))), .inl (cA 0, 41, .inl (fun _ => 0)), .inl (cA 0, 41, .inl (fun _ => 0))]
set_option maxRecDepth 20000 in
theorem ciX3 (cA : Nat → ClassId) (h0 : Nat) : CMet yX3_init cX3_init 1 1 3 123 cA h0 [] [.inr (3, [.null, .null, .null])] (cellsX3 cA h0) := by
  refine c_of ?_ (by decide) rfl (Nat.le_of_ble_eq_true rfl)
  refine c_aload_n 0 rfl dX3_init_0 ?_
  refine c_obj oiX3_3 oi_2 oi_3 (by decide) (Nat.le_of_ble_eq_true rfl) dX3_init_1 ?_
  refine c_aload_n 0 rfl dX3_init_4 ?_
  refine c_bipush (v := 41) (by decide) dX3_init_5 ?_
  refine c_newJ (N := 41) (mc' := 1) (ms' := 41) (es' := .inr (3, [.null, .null, .null]) :: [.inl (cA 2, 41, .inr (.inl (fun _ => 0)))]) (h0 + 1) rfl rfl ac_long (by decide) (by decide) (by decide) (by decide) dX3_init_7 ?_
  refine c_put (fs := [.null, .null, .null]) (fs' := [.ref (h0 + 1), .null, .null]) (rest := [.inl (cA 2, 41, .inr (.inl (fun _ => 0)))]) rfl fpcX3_11 (by rfl) (by rfl) (Nat.le_of_ble_eq_true rfl) rfl dX3_init_9 ?_
  refine c_aload_n 0 rfl dX3_init_12 ?_
  refine c_bipush (v := 41) (by decide) dX3_init_13 ?_
  refine c_newI (N := 41) (mc' := 2) (ms' := 82) (es' := .inr (3, [.ref (h0 + 1), .null, .null]) :: [.inl (cA 2, 41, .inr (.inl (fun _ => 0))), .inl (cA 0, 41, .inl (fun _ => 0))]) (h0 + 2) rfl rfl ac_int (by decide) (by decide) (by decide) (by decide) dX3_init_15 ?_
  refine c_put (fs := [.ref (h0 + 1), .null, .null]) (fs' := [.ref (h0 + 1), .ref (h0 + 2), .null]) (rest := [.inl (cA 2, 41, .inr (.inl (fun _ => 0))), .inl (cA 0, 41, .inl (fun _ => 0))]) rfl fpcX3_15 (by rfl) (by rfl) (Nat.le_of_ble_eq_true rfl) rfl dX3_init_17 ?_
  refine c_aload_n 0 rfl dX3_init_20 ?_
  refine c_bipush (v := 41) (by decide) dX3_init_21 ?_
  refine c_newI (N := 41) (mc' := 3) (ms' := 123) (es' := .inr (3, [.ref (h0 + 1), .ref (h0 + 2), .null]) :: [.inl (cA 2, 41, .inr (.inl (fun _ => 0))), .inl (cA 0, 41, .inl (fun _ => 0)), .inl (cA 0, 41, .inl (fun _ => 0))]) (h0 + 3) rfl rfl ac_int (by decide) (by decide) (by decide) (by decide) dX3_init_23 ?_
  refine c_put (fs := [.ref (h0 + 1), .ref (h0 + 2), .null]) (fs' := [.ref (h0 + 1), .ref (h0 + 2), .ref (h0 + 3)]) (rest := [.inl (cA 2, 41, .inr (.inl (fun _ => 0))), .inl (cA 0, 41, .inl (fun _ => 0)), .inl (cA 0, 41, .inl (fun _ => 0))]) rfl fpcX3_19 (by rfl) (by rfl) (Nat.le_of_ble_eq_true rfl) rfl dX3_init_25 ?_
  exact c_ret rfl rfl rfl dX3_init_28
def cellsX2 (cA : Nat → ClassId) (h0 : Nat) : List va_E := .inr (2, [.ref (h0 + 1), .ref (h0 + 2), .ref (h0 + 3), .ref (h0 + 4), .int (0)]) :: [.inl (cA 0, 20, .inl (fun _ => 0)), .inl (cA 0, 20, .inl (fun _ => 0)), .inl (cA 0, 1940, .inl (fun _ => 0)), .inl (cA 0, 21, .inl (fun _ => 0))]
set_option maxRecDepth 20000 in
theorem ciX2 (cA : Nat → ClassId) (h0 : Nat) : CMet yX2_init cX2_init 1 1 4 2001 cA h0 [] [.inr (2, [.null, .null, .null, .null, .int 0])] (cellsX2 cA h0) := by
  refine c_of ?_ (by decide) rfl (Nat.le_of_ble_eq_true rfl)
  refine c_aload_n 0 rfl dX2_init_0 ?_
  refine c_obj oiX2_3 oi_2 oi_3 (by decide) (Nat.le_of_ble_eq_true rfl) dX2_init_1 ?_
  refine c_aload_n 0 rfl dX2_init_4 ?_
  refine c_bipush (v := 20) (by decide) dX2_init_5 ?_
  refine c_newI (N := 20) (mc' := 1) (ms' := 20) (es' := .inr (2, [.null, .null, .null, .null, .int 0]) :: [.inl (cA 0, 20, .inl (fun _ => 0))]) (h0 + 1) rfl rfl ac_int (by decide) (by decide) (by decide) (by decide) dX2_init_7 ?_
  refine c_put (fs := [.null, .null, .null, .null, .int 0]) (fs' := [.ref (h0 + 1), .null, .null, .null, .int 0]) (rest := [.inl (cA 0, 20, .inl (fun _ => 0))]) rfl fpcX2_9 (by rfl) (by rfl) (Nat.le_of_ble_eq_true rfl) rfl dX2_init_9 ?_
  refine c_aload_n 0 rfl dX2_init_12 ?_
  refine c_bipush (v := 20) (by decide) dX2_init_13 ?_
  refine c_newI (N := 20) (mc' := 2) (ms' := 40) (es' := .inr (2, [.ref (h0 + 1), .null, .null, .null, .int 0]) :: [.inl (cA 0, 20, .inl (fun _ => 0)), .inl (cA 0, 20, .inl (fun _ => 0))]) (h0 + 2) rfl rfl ac_int (by decide) (by decide) (by decide) (by decide) dX2_init_15 ?_
  refine c_put (fs := [.ref (h0 + 1), .null, .null, .null, .int 0]) (fs' := [.ref (h0 + 1), .ref (h0 + 2), .null, .null, .int 0]) (rest := [.inl (cA 0, 20, .inl (fun _ => 0)), .inl (cA 0, 20, .inl (fun _ => 0))]) rfl fpcX2_15 (by rfl) (by rfl) (Nat.le_of_ble_eq_true rfl) rfl dX2_init_17 ?_
  refine c_aload_n 0 rfl dX2_init_20 ?_
  refine c_sipush (v := 1940) (by decide) dX2_init_21 ?_
  refine c_newI (N := 1940) (mc' := 3) (ms' := 1980) (es' := .inr (2, [.ref (h0 + 1), .ref (h0 + 2), .null, .null, .int 0]) :: [.inl (cA 0, 20, .inl (fun _ => 0)), .inl (cA 0, 20, .inl (fun _ => 0)), .inl (cA 0, 1940, .inl (fun _ => 0))]) (h0 + 3) rfl rfl ac_int (by decide) (by decide) (by decide) (by decide) dX2_init_24 ?_
  refine c_put (fs := [.ref (h0 + 1), .ref (h0 + 2), .null, .null, .int 0]) (fs' := [.ref (h0 + 1), .ref (h0 + 2), .ref (h0 + 3), .null, .int 0]) (rest := [.inl (cA 0, 20, .inl (fun _ => 0)), .inl (cA 0, 20, .inl (fun _ => 0)), .inl (cA 0, 1940, .inl (fun _ => 0))]) rfl fpcX2_18 (by rfl) (by rfl) (Nat.le_of_ble_eq_true rfl) rfl dX2_init_26 ?_
  refine c_aload_n 0 rfl dX2_init_29 ?_
  refine c_bipush (v := 21) (by decide) dX2_init_30 ?_
  refine c_newI (N := 21) (mc' := 4) (ms' := 2001) (es' := .inr (2, [.ref (h0 + 1), .ref (h0 + 2), .ref (h0 + 3), .null, .int 0]) :: [.inl (cA 0, 20, .inl (fun _ => 0)), .inl (cA 0, 20, .inl (fun _ => 0)), .inl (cA 0, 1940, .inl (fun _ => 0)), .inl (cA 0, 21, .inl (fun _ => 0))]) (h0 + 4) rfl rfl ac_int (by decide) (by decide) (by decide) (by decide) dX2_init_32 ?_
  refine c_put (fs := [.ref (h0 + 1), .ref (h0 + 2), .ref (h0 + 3), .null, .int 0]) (fs' := [.ref (h0 + 1), .ref (h0 + 2), .ref (h0 + 3), .ref (h0 + 4), .int 0]) (rest := [.inl (cA 0, 20, .inl (fun _ => 0)), .inl (cA 0, 20, .inl (fun _ => 0)), .inl (cA 0, 1940, .inl (fun _ => 0)), .inl (cA 0, 21, .inl (fun _ => 0))]) rfl fpcX2_21 (by rfl) (by rfl) (Nat.le_of_ble_eq_true rfl) rfl dX2_init_34 ?_
  refine c_aload_n 0 rfl dX2_init_37 ?_
  refine c_iconst (v := 0) (by decide) dX2_init_38 ?_
  refine c_put (fs := [.ref (h0 + 1), .ref (h0 + 2), .ref (h0 + 3), .ref (h0 + 4), .int 0]) (fs' := [.ref (h0 + 1), .ref (h0 + 2), .ref (h0 + 3), .ref (h0 + 4), .int (0)]) (rest := [.inl (cA 0, 20, .inl (fun _ => 0)), .inl (cA 0, 20, .inl (fun _ => 0)), .inl (cA 0, 1940, .inl (fun _ => 0)), .inl (cA 0, 21, .inl (fun _ => 0))]) rfl fpcX2_24 (by rfl) (by rfl) (Nat.le_of_ble_eq_true rfl) rfl dX2_init_39 ?_
  exact c_ret rfl rfl rfl dX2_init_42
def cellsX8 (cA : Nat → ClassId) (h0 : Nat) : List va_E := .inr (8, [.ref (h0 + 1), .ref (h0 + 2), .ref (h0 + 3), .long 0, .long 1]) :: [.inl (cA 0, 20, .inl (fun _ => 0)), .inl (cA 0, 20, .inl (fun _ => 0)), .inl (cA 0, 20, .inl (fun _ => 0))]
set_option maxRecDepth 20000 in
theorem ciX8 (cA : Nat → ClassId) (h0 : Nat) : CMet yX8_init cX8_init 1 1 3 60 cA h0 [] [.inr (8, [.null, .null, .null, .long 0, .long 0])] (cellsX8 cA h0) := by
  refine c_of ?_ (by decide) rfl (Nat.le_of_ble_eq_true rfl)
  refine c_aload_n 0 rfl dX8_init_0 ?_
  refine c_obj oiX8_3 oi_2 oi_3 (by decide) (Nat.le_of_ble_eq_true rfl) dX8_init_1 ?_
  refine c_aload_n 0 rfl dX8_init_4 ?_
  refine c_bipush (v := 20) (by decide) dX8_init_5 ?_
  refine c_newI (N := 20) (mc' := 1) (ms' := 20) (es' := .inr (8, [.null, .null, .null, .long 0, .long 0]) :: [.inl (cA 0, 20, .inl (fun _ => 0))]) (h0 + 1) rfl rfl ac_int (by decide) (by decide) (by decide) (by decide) dX8_init_7 ?_
  refine c_put (fs := [.null, .null, .null, .long 0, .long 0]) (fs' := [.ref (h0 + 1), .null, .null, .long 0, .long 0]) (rest := [.inl (cA 0, 20, .inl (fun _ => 0))]) rfl fpcX8_9 (by rfl) (by rfl) (Nat.le_of_ble_eq_true rfl) rfl dX8_init_9 ?_
  refine c_aload_n 0 rfl dX8_init_12 ?_
  refine c_bipush (v := 20) (by decide) dX8_init_13 ?_
  refine c_newI (N := 20) (mc' := 2) (ms' := 40) (es' := .inr (8, [.ref (h0 + 1), .null, .null, .long 0, .long 0]) :: [.inl (cA 0, 20, .inl (fun _ => 0)), .inl (cA 0, 20, .inl (fun _ => 0))]) (h0 + 2) rfl rfl ac_int (by decide) (by decide) (by decide) (by decide) dX8_init_15 ?_
  refine c_put (fs := [.ref (h0 + 1), .null, .null, .long 0, .long 0]) (fs' := [.ref (h0 + 1), .ref (h0 + 2), .null, .long 0, .long 0]) (rest := [.inl (cA 0, 20, .inl (fun _ => 0)), .inl (cA 0, 20, .inl (fun _ => 0))]) rfl fpcX8_15 (by rfl) (by rfl) (Nat.le_of_ble_eq_true rfl) rfl dX8_init_17 ?_
  refine c_aload_n 0 rfl dX8_init_20 ?_
  refine c_bipush (v := 20) (by decide) dX8_init_21 ?_
  refine c_newI (N := 20) (mc' := 3) (ms' := 60) (es' := .inr (8, [.ref (h0 + 1), .ref (h0 + 2), .null, .long 0, .long 0]) :: [.inl (cA 0, 20, .inl (fun _ => 0)), .inl (cA 0, 20, .inl (fun _ => 0)), .inl (cA 0, 20, .inl (fun _ => 0))]) (h0 + 3) rfl rfl ac_int (by decide) (by decide) (by decide) (by decide) dX8_init_23 ?_
  refine c_put (fs := [.ref (h0 + 1), .ref (h0 + 2), .null, .long 0, .long 0]) (fs' := [.ref (h0 + 1), .ref (h0 + 2), .ref (h0 + 3), .long 0, .long 0]) (rest := [.inl (cA 0, 20, .inl (fun _ => 0)), .inl (cA 0, 20, .inl (fun _ => 0)), .inl (cA 0, 20, .inl (fun _ => 0))]) rfl fpcX8_18 (by rfl) (by rfl) (Nat.le_of_ble_eq_true rfl) rfl dX8_init_25 ?_
  refine c_aload_n 0 rfl dX8_init_28 ?_
  refine c_lconst (v := 0) (by decide) dX8_init_29 ?_
  refine c_put (fs := [.ref (h0 + 1), .ref (h0 + 2), .ref (h0 + 3), .long 0, .long 0]) (fs' := [.ref (h0 + 1), .ref (h0 + 2), .ref (h0 + 3), .long 0, .long 0]) (rest := [.inl (cA 0, 20, .inl (fun _ => 0)), .inl (cA 0, 20, .inl (fun _ => 0)), .inl (cA 0, 20, .inl (fun _ => 0))]) rfl fpcX8_21 (by rfl) (by rfl) (Nat.le_of_ble_eq_true rfl) rfl dX8_init_30 ?_
  refine c_aload_n 0 rfl dX8_init_33 ?_
  refine c_lconst (v := 1) (by decide) dX8_init_34 ?_
  refine c_put (fs := [.ref (h0 + 1), .ref (h0 + 2), .ref (h0 + 3), .long 0, .long 0]) (fs' := [.ref (h0 + 1), .ref (h0 + 2), .ref (h0 + 3), .long 0, .long 1]) (rest := [.inl (cA 0, 20, .inl (fun _ => 0)), .inl (cA 0, 20, .inl (fun _ => 0)), .inl (cA 0, 20, .inl (fun _ => 0))]) rfl fpcX8_25 (by rfl) (by rfl) (Nat.le_of_ble_eq_true rfl) rfl dX8_init_35 ?_
  exact c_ret rfl rfl rfl dX8_init_38
def cellsX1 (cA : Nat → ClassId) (h0 : Nat) : List va_E := .inr (1, [.ref (h0 + 1), .ref (h0 + 2), .ref (h0 + 3), .int (0), .int (0), .int (1)]) :: [.inl (cA 0, 100, .inl (fun _ => 0)), .inl (cA 0, 5, .inl (fun _ => 0)), .inl (cA 0, 20, .inl (fun _ => 0))]
set_option maxRecDepth 20000 in
theorem ciX1 (cA : Nat → ClassId) (h0 : Nat) : CMet yX1_init cX1_init 1 1 3 125 cA h0 [] [.inr (1, [.null, .null, .null, .int 0, .int 0, .int 0])] (cellsX1 cA h0) := by
  refine c_of ?_ (by decide) rfl (Nat.le_of_ble_eq_true rfl)
  refine c_aload_n 0 rfl dX1_init_0 ?_
  refine c_obj oiX1_3 oi_2 oi_3 (by decide) (Nat.le_of_ble_eq_true rfl) dX1_init_1 ?_
  refine c_aload_n 0 rfl dX1_init_4 ?_
  refine c_bipush (v := 100) (by decide) dX1_init_5 ?_
  refine c_newI (N := 100) (mc' := 1) (ms' := 100) (es' := .inr (1, [.null, .null, .null, .int 0, .int 0, .int 0]) :: [.inl (cA 0, 100, .inl (fun _ => 0))]) (h0 + 1) rfl rfl ac_int (by decide) (by decide) (by decide) (by decide) dX1_init_7 ?_
  refine c_put (fs := [.null, .null, .null, .int 0, .int 0, .int 0]) (fs' := [.ref (h0 + 1), .null, .null, .int 0, .int 0, .int 0]) (rest := [.inl (cA 0, 100, .inl (fun _ => 0))]) rfl fpcX1_9 (by rfl) (by rfl) (Nat.le_of_ble_eq_true rfl) rfl dX1_init_9 ?_
  refine c_aload_n 0 rfl dX1_init_12 ?_
  refine c_iconst (v := 5) (by decide) dX1_init_13 ?_
  refine c_newI (N := 5) (mc' := 2) (ms' := 105) (es' := .inr (1, [.ref (h0 + 1), .null, .null, .int 0, .int 0, .int 0]) :: [.inl (cA 0, 100, .inl (fun _ => 0)), .inl (cA 0, 5, .inl (fun _ => 0))]) (h0 + 2) rfl rfl ac_int (by decide) (by decide) (by decide) (by decide) dX1_init_14 ?_
  refine c_put (fs := [.ref (h0 + 1), .null, .null, .int 0, .int 0, .int 0]) (fs' := [.ref (h0 + 1), .ref (h0 + 2), .null, .int 0, .int 0, .int 0]) (rest := [.inl (cA 0, 100, .inl (fun _ => 0)), .inl (cA 0, 5, .inl (fun _ => 0))]) rfl fpcX1_15 (by rfl) (by rfl) (Nat.le_of_ble_eq_true rfl) rfl dX1_init_16 ?_
  refine c_aload_n 0 rfl dX1_init_19 ?_
  refine c_bipush (v := 20) (by decide) dX1_init_20 ?_
  refine c_newI (N := 20) (mc' := 3) (ms' := 125) (es' := .inr (1, [.ref (h0 + 1), .ref (h0 + 2), .null, .int 0, .int 0, .int 0]) :: [.inl (cA 0, 100, .inl (fun _ => 0)), .inl (cA 0, 5, .inl (fun _ => 0)), .inl (cA 0, 20, .inl (fun _ => 0))]) (h0 + 3) rfl rfl ac_int (by decide) (by decide) (by decide) (by decide) dX1_init_22 ?_
  refine c_put (fs := [.ref (h0 + 1), .ref (h0 + 2), .null, .int 0, .int 0, .int 0]) (fs' := [.ref (h0 + 1), .ref (h0 + 2), .ref (h0 + 3), .int 0, .int 0, .int 0]) (rest := [.inl (cA 0, 100, .inl (fun _ => 0)), .inl (cA 0, 5, .inl (fun _ => 0)), .inl (cA 0, 20, .inl (fun _ => 0))]) rfl fpcX1_18 (by rfl) (by rfl) (Nat.le_of_ble_eq_true rfl) rfl dX1_init_24 ?_
  refine c_aload_n 0 rfl dX1_init_27 ?_
  refine c_iconst (v := 0) (by decide) dX1_init_28 ?_
  refine c_put (fs := [.ref (h0 + 1), .ref (h0 + 2), .ref (h0 + 3), .int 0, .int 0, .int 0]) (fs' := [.ref (h0 + 1), .ref (h0 + 2), .ref (h0 + 3), .int (0), .int 0, .int 0]) (rest := [.inl (cA 0, 100, .inl (fun _ => 0)), .inl (cA 0, 5, .inl (fun _ => 0)), .inl (cA 0, 20, .inl (fun _ => 0))]) rfl fpcX1_21 (by rfl) (by rfl) (Nat.le_of_ble_eq_true rfl) rfl dX1_init_29 ?_
  refine c_aload_n 0 rfl dX1_init_32 ?_
  refine c_iconst (v := 0) (by decide) dX1_init_33 ?_
  refine c_put (fs := [.ref (h0 + 1), .ref (h0 + 2), .ref (h0 + 3), .int (0), .int 0, .int 0]) (fs' := [.ref (h0 + 1), .ref (h0 + 2), .ref (h0 + 3), .int (0), .int (0), .int 0]) (rest := [.inl (cA 0, 100, .inl (fun _ => 0)), .inl (cA 0, 5, .inl (fun _ => 0)), .inl (cA 0, 20, .inl (fun _ => 0))]) rfl fpcX1_25 (by rfl) (by rfl) (Nat.le_of_ble_eq_true rfl) rfl dX1_init_34 ?_
  refine c_aload_n 0 rfl dX1_init_37 ?_
  refine c_iconst (v := 1) (by decide) dX1_init_38 ?_
  refine c_put (fs := [.ref (h0 + 1), .ref (h0 + 2), .ref (h0 + 3), .int (0), .int (0), .int 0]) (fs' := [.ref (h0 + 1), .ref (h0 + 2), .ref (h0 + 3), .int (0), .int (0), .int (1)]) (rest := [.inl (cA 0, 100, .inl (fun _ => 0)), .inl (cA 0, 5, .inl (fun _ => 0)), .inl (cA 0, 20, .inl (fun _ => 0))]) rfl fpcX1_28 (by rfl) (by rfl) (Nat.le_of_ble_eq_true rfl) rfl dX1_init_39 ?_
  exact c_ret rfl rfl rfl dX1_init_42
