/-! ===== from the law's entry ===== -/
abbrev tmS (i : Nat) : Term := .string (strO i).1 (strO i).2.1
theorem sw_ex : ∀ i, i < 7 → Cond.exactly (tmS i) "java/lang/String" ∈ flatC (Jvm.Cond.and given_1 narrow_1) := by decide +kernel
theorem sw_co : ∀ i, i < 7 → Cond.eq (.field (tmS i) "java/lang/String" "coder" "B") (.int 0) ∈ flatC (Jvm.Cond.and given_1 narrow_1) := by decide +kernel
theorem sw_ar : ∀ i, i < 7 → Cond.arrayOf (.field (tmS i) "java/lang/String" "value" "[B") .byte ∈ flatC (Jvm.Cond.and given_1 narrow_1) := by decide +kernel
theorem sw_le : ∀ i, i < 7 → Cond.eq (.length (.field (tmS i) "java/lang/String" "value" "[B")) (.int (Int32.ofNat (lenS.getD i 0))) ∈ flatC (Jvm.Cond.and given_1 narrow_1) := by decide +kernel
theorem sw_el : ∀ i, i < 7 → ∀ j, j < lenS.getD i 0 → Cond.eq (.elem (.field (tmS i) "java/lang/String" "value" "[B") (.int (Int32.ofNat j))) (.int ((bytS.getD i []).getD j 0)) ∈ flatC (Jvm.Cond.and given_1 narrow_1) := by decide +kernel
theorem sw_ne : ∀ i, i < 7 → ∀ j, j < 7 → i ≠ j → Cond.not (Cond.eq (tmS i) (tmS j)) ∈ flatC (Jvm.Cond.and given_1 narrow_1) ∨ Cond.not (Cond.eq (tmS j) (tmS i)) ∈ flatC (Jvm.Cond.and given_1 narrow_1) := by decide +kernel
theorem sw_lays : Cond.laysStatic "java/lang/String" "COMPACT_STRINGS" "Z" ∈ lw_tbl := List.mem_of_getElem? (i := 592) (by decide +kernel)
theorem sw_ini : Cond.initialized "java/lang/String" ∈ lw_tbl := List.mem_of_getElem? (i := 109) (by decide +kernel)
theorem sw_comp : Cond.eq (.static "java/lang/String" "COMPACT_STRINGS" "Z") (.int 1) ∈ flatC (Jvm.Cond.and given_1 narrow_1) := by decide +kernel
theorem sw_len : ∀ i, i < 7 → lenS.getD i 0 < 2 ^ 31 := by decide +kernel
theorem sw_ref : ∀ i, i < 7 → Cond.stringRef (strO i).1 (strO i).2.1 (strO i).2.2 ∈ lw_tbl := by
  intro i hi
  match i, hi with
  | 0, _ => exact List.mem_of_getElem? (i := 712) (by decide +kernel)
  | 1, _ => exact List.mem_of_getElem? (i := 747) (by decide +kernel)
  | 2, _ => exact List.mem_of_getElem? (i := 761) (by decide +kernel)
  | 3, _ => exact List.mem_of_getElem? (i := 746) (by decide +kernel)
  | 4, _ => exact List.mem_of_getElem? (i := 748) (by decide +kernel)
  | 5, _ => exact List.mem_of_getElem? (i := 745) (by decide +kernel)
  | 6, _ => exact List.mem_of_getElem? (i := 574) (by decide +kernel)
theorem nestw_in : ∀ w ∈ nestw, w ∈ lw_tbl := by
  have e : nestw = [126, 160, 166, 252, 269, 323, 326, 345, 362, 384, 411, 495, 502, 522, 669, 674, 676, 691, 721, 766, 776, 817, 927, 975, 978, 980, 993, 994, 999, 1023, 1037, 1038, 1048, 1063, 1064, 1066, 1067, 1068, 1078, 1092, 1097, 1102, 1107, 1139, 1141, 1175, 1189].filterMap (fun i => lw_tbl[i]?) := by decide +kernel
  intro w hw
  rw [e] at hw
  obtain ⟨i, -, hi⟩ := List.mem_filterMap.mp hw
  exact List.mem_of_getElem? hi
theorem clL_7 : Cond.classLink R_law 7 RX11 ∈ gtbl := gtbl_of 116 (by decide +kernel) rfl
theorem clL_10 : Cond.classLink R_law 10 RX12 ∈ gtbl := gtbl_of 1195 (by decide +kernel) rfl
theorem miL_9 : Cond.methodLink R_law 9 yX11_init ∈ gtbl := gtbl_of 118 (by decide +kernel) rfl
theorem miL_12 : Cond.methodLink R_law 12 yX12_init ∈ gtbl := gtbl_of 1197 (by decide +kernel) rfl
theorem arr_of {s : State} {args : Array Value} {ty : FieldType} (h : (Cond.arrayClass ty).before args s = true) : ∃ cA, s.vm.findClass ("[" ++ ty.toString) = some cA ∧ ArrOfT s cA ty := by
  obtain ⟨c, k, comp, h1, h2, h3⟩ := Cond.arrayClass_spec h
  exact ⟨c, h1, fun n z => ⟨fun k h => (by cases h), k, h2, comp, h3⟩⟩
