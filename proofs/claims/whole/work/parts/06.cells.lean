set_option maxRecDepth 20000 in
theorem cin0 : ∀ w ∈ u_ws RX0 TX0 4, w ∈ gtbl := gtbl_all [334, 336, 338, 340] (by decide +kernel) (by decide +kernel)
set_option maxRecDepth 20000 in
theorem cin1 : ∀ w ∈ u_ws RX1 TX1 6, w ∈ gtbl := gtbl_all [421, 423, 425, 427, 429, 431] (by decide +kernel) (by decide +kernel)
set_option maxRecDepth 20000 in
theorem cin2 : ∀ w ∈ u_ws RX2 TX2 5, w ∈ gtbl := gtbl_all [371, 373, 375, 377, 379] (by decide +kernel) (by decide +kernel)
set_option maxRecDepth 20000 in
theorem cin3 : ∀ w ∈ u_ws RX3 TX3 3, w ∈ gtbl := gtbl_all [352, 354, 356] (by decide +kernel) (by decide +kernel)
set_option maxRecDepth 20000 in
theorem cin4 : ∀ w ∈ u_ws RX4 TX4 11, w ∈ gtbl := gtbl_all [288, 290, 292, 294, 296, 298, 300, 302, 304, 306, 308] (by decide +kernel) (by decide +kernel)
set_option maxRecDepth 20000 in
theorem cin5 : ∀ w ∈ u_ws RX5 TX5 3, w ∈ gtbl := gtbl_all [315, 317, 319] (by decide +kernel) (by decide +kernel)
set_option maxRecDepth 20000 in
theorem cin6 : ∀ w ∈ u_ws RX6 TX6 8, w ∈ gtbl := gtbl_all [200, 202, 204, 206, 208, 210, 212, 214] (by decide +kernel) (by decide +kernel)
set_option maxRecDepth 20000 in
theorem cin7 : ∀ w ∈ u_ws RX7 TX7 2, w ∈ gtbl := gtbl_all [256, 258] (by decide +kernel) (by decide +kernel)
set_option maxRecDepth 20000 in
theorem cin8 : ∀ w ∈ u_ws RX8 TX8 5, w ∈ gtbl := gtbl_all [398, 400, 402, 404, 406] (by decide +kernel) (by decide +kernel)
set_option maxRecDepth 20000 in
theorem cin9 : ∀ w ∈ u_ws RX9 TX9 5, w ∈ gtbl := gtbl_all [234, 236, 238, 240, 242] (by decide +kernel) (by decide +kernel)
set_option maxRecDepth 20000 in
theorem cin10 : ∀ w ∈ u_ws RX10 TX10 6, w ∈ gtbl := gtbl_all [144, 146, 148, 150, 152, 154] (by decide +kernel) (by decide +kernel)
set_option maxRecDepth 20000 in
theorem cin11 : ∀ w ∈ u_ws RX11 TX11 16, w ∈ gtbl := gtbl_all [450, 452, 454, 456, 458, 460, 462, 464, 466, 468, 470, 472, 474, 476, 478, 480] (by decide +kernel) (by decide +kernel)
set_option maxRecDepth 20000 in
theorem cin12 : ∀ w ∈ u_ws RX12 TX12 65, w ∈ gtbl := gtbl_all [1266, 1268, 1270, 1272, 1274, 1276, 1278, 1280, 1282, 1284, 1286, 1288, 1290, 1292, 1294, 1296, 1298, 1300, 1302, 1304, 1306, 1308, 1310, 1312, 1314, 1316, 1318, 1320, 1322, 1324, 1326, 1328, 1330, 1332, 1334, 1336, 1338, 1340, 1342, 1344, 1346, 1348, 1350, 1352, 1354, 1356, 1358, 1360, 1362, 1364, 1366, 1368, 1370, 1372, 1374, 1376, 1378, 1380, 1382, 1384, 1386, 1388, 1390, 1392, 1394] (by decide +kernel) (by decide +kernel)
theorem cls_in {ci N : Nat} {C : String} {T : u_T} (h : classes[ci]? = some (C, T, N)) : ∀ w ∈ u_ws C T N, w ∈ gtbl := by
  match ci, h with
  | 0, h => injection h with h; injection h with h1 h; injection h with h2 h3; subst h1 h2 h3; exact cin0
  | 1, h => injection h with h; injection h with h1 h; injection h with h2 h3; subst h1 h2 h3; exact cin1
  | 2, h => injection h with h; injection h with h1 h; injection h with h2 h3; subst h1 h2 h3; exact cin2
  | 3, h => injection h with h; injection h with h1 h; injection h with h2 h3; subst h1 h2 h3; exact cin3
  | 4, h => injection h with h; injection h with h1 h; injection h with h2 h3; subst h1 h2 h3; exact cin4
  | 5, h => injection h with h; injection h with h1 h; injection h with h2 h3; subst h1 h2 h3; exact cin5
  | 6, h => injection h with h; injection h with h1 h; injection h with h2 h3; subst h1 h2 h3; exact cin6
  | 7, h => injection h with h; injection h with h1 h; injection h with h2 h3; subst h1 h2 h3; exact cin7
  | 8, h => injection h with h; injection h with h1 h; injection h with h2 h3; subst h1 h2 h3; exact cin8
  | 9, h => injection h with h; injection h with h1 h; injection h with h2 h3; subst h1 h2 h3; exact cin9
  | 10, h => injection h with h; injection h with h1 h; injection h with h2 h3; subst h1 h2 h3; exact cin10
  | 11, h => injection h with h; injection h with h1 h; injection h with h2 h3; subst h1 h2 h3; exact cin11
  | 12, h => injection h with h; injection h with h1 h; injection h with h2 h3; subst h1 h2 h3; exact cin12
  | k + 13, h => cases h
theorem cls_ty {ci N : Nat} {C : String} {T : u_T} (h : classes[ci]? = some (C, T, N)) : ∃ ty : Nat → FieldType, ∀ k, k < N → parseFieldDescriptor (T k).2.2.1 = some (ty k) := by
  match ci, h with
  | 0, h => injection h with h; injection h with h1 h; injection h with h2 h3; subst h1 h2 h3; exact ⟨_, tyX0_ok⟩
  | 1, h => injection h with h; injection h with h1 h; injection h with h2 h3; subst h1 h2 h3; exact ⟨_, tyX1_ok⟩
  | 2, h => injection h with h; injection h with h1 h; injection h with h2 h3; subst h1 h2 h3; exact ⟨_, tyX2_ok⟩
  | 3, h => injection h with h; injection h with h1 h; injection h with h2 h3; subst h1 h2 h3; exact ⟨_, tyX3_ok⟩
  | 4, h => injection h with h; injection h with h1 h; injection h with h2 h3; subst h1 h2 h3; exact ⟨_, tyX4_ok⟩
  | 5, h => injection h with h; injection h with h1 h; injection h with h2 h3; subst h1 h2 h3; exact ⟨_, tyX5_ok⟩
  | 6, h => injection h with h; injection h with h1 h; injection h with h2 h3; subst h1 h2 h3; exact ⟨_, tyX6_ok⟩
  | 7, h => injection h with h; injection h with h1 h; injection h with h2 h3; subst h1 h2 h3; exact ⟨_, tyX7_ok⟩
  | 8, h => injection h with h; injection h with h1 h; injection h with h2 h3; subst h1 h2 h3; exact ⟨_, tyX8_ok⟩
  | 9, h => injection h with h; injection h with h1 h; injection h with h2 h3; subst h1 h2 h3; exact ⟨_, tyX9_ok⟩
  | 10, h => injection h with h; injection h with h1 h; injection h with h2 h3; subst h1 h2 h3; exact ⟨_, tyX10_ok⟩
  | 11, h => injection h with h; injection h with h1 h; injection h with h2 h3; subst h1 h2 h3; exact ⟨_, tyX11_ok⟩
  | 12, h => injection h with h; injection h with h1 h; injection h with h2 h3; subst h1 h2 h3; exact ⟨_, tyX12_ok⟩
  | k + 13, h => cases h
theorem cls_nm {ci N : Nat} {C : String} {T : u_T} (h : classes[ci]? = some (C, T, N)) : ∀ a, a < N → ∀ b, b < N → a ≠ b → (T a).2.1 ≠ (T b).2.1 := by
  match ci, h with
  | 0, h => injection h with h; injection h with h1 h; injection h with h2 h3; subst h1 h2 h3; exact nmX0
  | 1, h => injection h with h; injection h with h1 h; injection h with h2 h3; subst h1 h2 h3; exact nmX1
  | 2, h => injection h with h; injection h with h1 h; injection h with h2 h3; subst h1 h2 h3; exact nmX2
  | 3, h => injection h with h; injection h with h1 h; injection h with h2 h3; subst h1 h2 h3; exact nmX3
  | 4, h => injection h with h; injection h with h1 h; injection h with h2 h3; subst h1 h2 h3; exact nmX4
  | 5, h => injection h with h; injection h with h1 h; injection h with h2 h3; subst h1 h2 h3; exact nmX5
  | 6, h => injection h with h; injection h with h1 h; injection h with h2 h3; subst h1 h2 h3; exact nmX6
  | 7, h => injection h with h; injection h with h1 h; injection h with h2 h3; subst h1 h2 h3; exact nmX7
  | 8, h => injection h with h; injection h with h1 h; injection h with h2 h3; subst h1 h2 h3; exact nmX8
  | 9, h => injection h with h; injection h with h1 h; injection h with h2 h3; subst h1 h2 h3; exact nmX9
  | 10, h => injection h with h; injection h with h1 h; injection h with h2 h3; subst h1 h2 h3; exact nmX10
  | 11, h => injection h with h; injection h with h1 h; injection h with h2 h3; subst h1 h2 h3; exact nmX11
  | 12, h => injection h with h; injection h with h1 h; injection h with h2 h3; subst h1 h2 h3; exact nmX12
  | k + 13, h => cases h
/-! ===== rows over Sim: cells, returns, calls, the entry ===== -/
def oI (b : Int32 × AH) : Option Value × AH := (some (.int b.1), b.2)
def oJ (b : Int64 × AH) : Option Value × AH := (some (.long b.1), b.2)
def oV (b : AH) : Option Value × AH := (none, b)
/-- total methods: an int and no change, no answer, an int and a change -/
def tI (h : AH) (v : Int32) : Option (Option Value × AH) := some (some (.int v), h)
def tJ (h : AH) (v : Int64) : Option (Option Value × AH) := some (some (.long v), h)
def tV (h : AH) : Option (Option Value × AH) := some (none, h)
def tP (b : Int32 × AH) : Option (Option Value × AH) := some (some (.int b.1), b.2)
def tQ (b : Int64 × AH) : Option (Option Value × AH) := some (some (.long b.1), b.2)
def FL (own : String) (idx ci j : Nat) : Prop := ∃ (C : String) (T : u_T) (N : Nat), classes[ci]? = some (C, T, N) ∧ j < N ∧ Cond.fieldLink own idx (T j).1 (T j).2.1 (T j).2.2.1 ∈ gtbl
def FP (own : String) (idx ci j : Nat) (ty : FieldType) : Prop := ∃ (C : String) (T : u_T) (N : Nat), classes[ci]? = some (C, T, N) ∧ j < N ∧ Cond.fieldLink own idx (T j).1 (T j).2.1 (T j).2.2.1 ∈ gtbl ∧ (T j).2.2.2 = false ∧ parseFieldDescriptor (T j).2.2.1 = some ty
/-- a link to a method: of the class's own table, or to a private one of a nest mate -/
def ML (own : String) (idx : Nat) (y : MethodName) : Prop := Cond.methodLink own idx y ∈ gtbl ∨ ∃ host, Cond.methodLinkNest own idx y host ∈ nestw
def MW (y : MethodName) (bytes : ByteArray) (maxL : Nat) (ret : Option FieldType) (k : Nat) : Prop := Cond.code y bytes maxL ret ∈ gtbl ∧ Cond.initialized y.cls ∈ gtbl ∧ (y.cls ≠ "java/lang/invoke/MethodHandle" ∧ y.cls ≠ "java/lang/invoke/VarHandle" ∧ (parseMethodDescriptor y.desc).map (fun d => d.parameters.length) = some k) ∧ maxL ≤ 21
def MV (y : MethodName) (bytes : ByteArray) (maxL : Nat) (ret : Option FieldType) (k : Nat) : Prop := MW y bytes maxL ret k ∧ Cond.instanceMethod y ∈ gtbl ∧ Cond.selects y.cls y y ∈ gtbl
def MS (y : MethodName) (bytes : ByteArray) (maxL : Nat) (ret : Option FieldType) (k : Nat) : Prop := MW y bytes maxL ret k ∧ Cond.static y ∈ gtbl
section SimCells
variable {β : Type} {own : String} {cc : ByteArray} {nL : Nat} {ret : Option FieldType} {n : Nat} {out : β → Option (Option Value × AH)} {t : β} {pc : Nat} {L : List (Nat × Value)} {st : List Value} {h : AH}
theorem flds_at {adr : Nat → Nat} {k j : Nat} {fs : List (Nat × Nat)} {f : Nat × Nat} (hj : fs[j]? = some f) : (flds adr h k fs)[j]? = some (ftv adr h k j f) := by
  unfold flds
  rw [List.getElem?_mapIdx, hj]
  rfl
theorem sim_get {o ci j idx : Nat} {fs : List (Nat × Nat)} {f : Nat × Nat} {v : Value} (hv : ∀ adr, ftv adr h o j f = cv adr v) (hf : FL own idx ci j) (ho : tbl[o]? = some (3, ci, fs)) (hj : fs[j]? = some f) (hd : decode cc pc = .ok (.getfield idx, 3)) (k : Sim own cc nL ret n out t (pc + 3) L (v :: st) h) : Sim own cc nL ret n out t pc L (.ref o :: st) h := by
  intro p l e s m args below meth c D cA adr X a ha H locs ls hP hS hl
  obtain ⟨C, T, N, hc, hjN, hlk⟩ := hf
  refine va_get (D := D) (cl := classes) (C := C) (T := T) (N := N) (v := cv adr v) X.1.1 X.1.2.1 X.1.2.2.2.2 (cls_in hc) X.1.2.2.2.1 X.2.2.2.1.1 hP o (wld_at ho) hc j hjN (X.1.2.2.2.2 _ hlk) (fun _ q => q) ?_ hd (k p l e s m args below meth c D cA adr X a ha H locs ls hP hS hl)
  rw [← hv adr]
  exact flds_at hj
theorem sim_getI {o ci j idx q : Nat} {fs : List (Nat × Nat)} (hf : FL own idx ci j) (ho : tbl[o]? = some (3, ci, fs)) (hj : fs[j]? = some (0, q)) (hd : decode cc pc = .ok (.getfield idx, 3)) (k : Sim own cc nL ret n out t (pc + 3) L (.int (h.1 o j) :: st) h) : Sim own cc nL ret n out t pc L (.ref o :: st) h := sim_get (fun _ => rfl) hf ho hj hd k
theorem sim_getJ {o ci j idx q : Nat} {fs : List (Nat × Nat)} (hf : FL own idx ci j) (ho : tbl[o]? = some (3, ci, fs)) (hj : fs[j]? = some (1, q)) (hd : decode cc pc = .ok (.getfield idx, 3)) (k : Sim own cc nL ret n out t (pc + 3) L (.long (h.2 o j) :: st) h) : Sim own cc nL ret n out t pc L (.ref o :: st) h := sim_get (fun _ => rfl) hf ho hj hd k
theorem sim_getR {o ci j idx q : Nat} {fs : List (Nat × Nat)} (hf : FL own idx ci j) (ho : tbl[o]? = some (3, ci, fs)) (hj : fs[j]? = some (2, q)) (hd : decode cc pc = .ok (.getfield idx, 3)) (k : Sim own cc nL ret n out t (pc + 3) L (.ref q :: st) h) : Sim own cc nL ret n out t pc L (.ref o :: st) h := sim_get (fun _ => rfl) hf ho hj hd k
theorem sim_putI {o ci j idx q : Nat} {fs : List (Nat × Nat)} {ty : FieldType} {v : Int32} (hf : FP own idx ci j ty) (hn : narrow ty (.int v) = .int v) (hft : fits ty (.int v) = true) (ho : tbl[o]? = some (3, ci, fs)) (hj : fs[j]? = some (0, q)) (hd : decode cc pc = .ok (.putfield idx, 3)) (k : Sim own cc nL ret n out t (pc + 3) L st (sI h o j v)) : Sim own cc nL ret n out t pc L (.int v :: .ref o :: st) h := by
  intro p l e s m args below meth c D cA adr X a ha H locs ls hP hS hl
  obtain ⟨C, T, N, hc, hjN, hlk, hfin, hty⟩ := hf
  refine va_put (D := D) (cl := classes) (C := C) (T := T) (N := N) (v := .int v) (ty := ty) X.1.1 X.1.2.1 X.1.2.2.2.2 (cls_in hc) (cls_ty hc).choose (cls_ty hc).choose_spec (cls_nm hc) X.1.2.2.2.1 X.2.2.2.1.1 hP (wld_D X.2.2.2.2) hS o (wld_at ho) hc j hjN (X.1.2.2.2.2 _ hlk) (fun _ q => q) hfin hty hn hft ?_ hd (fun H1 locs1 hP1 hD1 hS1 => ?_)
  · show j < (flds adr h o fs).length
    unfold flds
    rw [List.length_mapIdx]
    exact (List.getElem?_eq_some_iff.mp hj).1
  · refine k p l e s m args below meth c D cA adr X a ha H1 locs1 ls ?_ hS1 hl
    have e1 : (adr o, (Sum.inr (ci, (flds adr h o fs).set j (.int v)) : va_E)) = (adr o, cellOf cA adr (sI h o j v) o (3, ci, fs)) := by
      show _ = (adr o, (Sum.inr (ci, flds adr (sI h o j v) o fs) : va_E))
      rw [flds_set hj]
    have hP2 : va_P D classes ((wld cA adr h).set o (adr o, (Sum.inr (ci, (flds adr h o fs).set j (.int v)) : va_E))) H1 := hP1
    rw [e1, wld_set ho (fun a ha => sI_ne h j v ha) (fun a _ => rfl)] at hP2
    exact hP2
theorem sim_putJ {o ci j idx q : Nat} {fs : List (Nat × Nat)} {v : Int64} (hf : FP own idx ci j .long) (ho : tbl[o]? = some (3, ci, fs)) (hj : fs[j]? = some (1, q)) (hd : decode cc pc = .ok (.putfield idx, 3)) (k : Sim own cc nL ret n out t (pc + 3) L st (sJ h o j v)) : Sim own cc nL ret n out t pc L (.long v :: .ref o :: st) h := by
  intro p l e s m args below meth c D cA adr X a ha H locs ls hP hS hl
  obtain ⟨C, T, N, hc, hjN, hlk, hfin, hty⟩ := hf
  refine va_put (D := D) (cl := classes) (C := C) (T := T) (N := N) (v := .long v) (ty := .long) X.1.1 X.1.2.1 X.1.2.2.2.2 (cls_in hc) (cls_ty hc).choose (cls_ty hc).choose_spec (cls_nm hc) X.1.2.2.2.1 X.2.2.2.1.1 hP (wld_D X.2.2.2.2) hS o (wld_at ho) hc j hjN (X.1.2.2.2.2 _ hlk) (fun _ q => q) hfin hty rfl rfl ?_ hd (fun H1 locs1 hP1 hD1 hS1 => ?_)
  · show j < (flds adr h o fs).length
    unfold flds
    rw [List.length_mapIdx]
    exact (List.getElem?_eq_some_iff.mp hj).1
  · refine k p l e s m args below meth c D cA adr X a ha H1 locs1 ls ?_ hS1 hl
    have e1 : (adr o, (Sum.inr (ci, (flds adr h o fs).set j (.long v)) : va_E)) = (adr o, cellOf cA adr (sJ h o j v) o (3, ci, fs)) := by
      show _ = (adr o, (Sum.inr (ci, flds adr (sJ h o j v) o fs) : va_E))
      rw [flds_setJ hj]
    have hP2 : va_P D classes ((wld cA adr h).set o (adr o, (Sum.inr (ci, (flds adr h o fs).set j (.long v)) : va_E))) H1 := hP1
    rw [e1, wld_set (h := h) (h' := sJ h o j v) ho (fun a _ => rfl) (fun a ha => sJ_ne h j v ha)] at hP2
    exact hP2
theorem sim_iald {o len : Nat} {i : Int32} (ho : tbl[o]? = some (0, len, [])) (hi : vp_in i len) (hd : decode cc pc = .ok (.iaload, 1)) (k : Sim own cc nL ret n out t (pc + 1) L (.int (h.1 o i.toNatClampNeg) :: st) h) : Sim own cc nL ret n out t pc L (.int i :: .ref o :: st) h := by
  intro p l e s m args below meth c D cA adr X a ha H locs ls hP hS hl
  exact va_iald (D := D) (cl := classes) (f := h.1 o) X.1.1 X.1.2.1 X.2.2.2.1.1 hP o 0 (wld_at ho) rfl hi hd (k p l e s m args below meth c D cA adr X a ha H locs ls hP hS hl)
theorem sim_bald {o len : Nat} {i : Int32} (ho : tbl[o]? = some (1, len, [])) (hi : vp_in i len) (hd : decode cc pc = .ok (.baload, 1)) (k : Sim own cc nL ret n out t (pc + 1) L (.int (h.1 o i.toNatClampNeg) :: st) h) : Sim own cc nL ret n out t pc L (.int i :: .ref o :: st) h := by
  intro p l e s m args below meth c D cA adr X a ha H locs ls hP hS hl
  exact va_bald (D := D) (cl := classes) (f := h.1 o) X.1.1 X.1.2.1 X.2.2.2.1.1 hP o 1 (wld_at ho) rfl hi hd (k p l e s m args below meth c D cA adr X a ha H locs ls hP hS hl)
theorem sim_lald {o len : Nat} {i : Int32} (ho : tbl[o]? = some (2, len, [])) (hi : vp_in i len) (hd : decode cc pc = .ok (.laload, 1)) (k : Sim own cc nL ret n out t (pc + 1) L (.long (h.2 o i.toNatClampNeg) :: st) h) : Sim own cc nL ret n out t pc L (.int i :: .ref o :: st) h := by
  intro p l e s m args below meth c D cA adr X a ha H locs ls hP hS hl
  exact va_lald (D := D) (cl := classes) (f := h.2 o) X.1.1 X.1.2.1 X.2.2.2.1.1 hP o 2 (wld_at ho) rfl hi hd (k p l e s m args below meth c D cA adr X a ha H locs ls hP hS hl)
theorem sim_alen {o tg len : Nat} {v : Int32} (ho : tbl[o]? = some (tg, len, [])) (htg : tg < 3) (hv : Int32.ofNat len = v) (hd : decode cc pc = .ok (.arraylength, 1)) (k : Sim own cc nL ret n out t (pc + 1) L (.int v :: st) h) : Sim own cc nL ret n out t pc L (.ref o :: st) h := by
  intro p l e s m args below meth c D cA adr X a ha H locs ls hP hS hl
  have k' := k p l e s m args below meth c D cA adr X a ha H locs ls hP hS hl
  match tg, htg, ho with
  | 0, _, ho => exact va_alen (D := D) (cl := classes) (x := (len, .inl (h.1 o))) X.1.1 X.1.2.1 X.2.2.2.1.1 hP o 0 (wld_at ho) rfl hv hd k'
  | 1, _, ho => exact va_alen (D := D) (cl := classes) (x := (len, .inl (h.1 o))) X.1.1 X.1.2.1 X.2.2.2.1.1 hP o 1 (wld_at ho) rfl hv hd k'
  | 2, _, ho => exact va_alen (D := D) (cl := classes) (x := (len, .inr (.inl (h.2 o)))) X.1.1 X.1.2.1 X.2.2.2.1.1 hP o 2 (wld_at ho) rfl hv hd k'
theorem sim_iast {o len : Nat} {i v : Int32} (ho : tbl[o]? = some (0, len, [])) (hi : vp_in i len) (hd : decode cc pc = .ok (.iastore, 1)) (k : Sim own cc nL ret n out t (pc + 1) L st (sI h o i.toNatClampNeg v)) : Sim own cc nL ret n out t pc L (.int v :: .int i :: .ref o :: st) h := by
  intro p l e s m args below meth c D cA adr X a ha H locs ls hP hS hl
  refine va_iast (D := D) (cl := classes) (f := h.1 o) (A := Aw adr) X.1.1 X.1.2.1 X.2.2.2.1.1 hP (wld_D X.2.2.2.2) hS o 0 (wld_at ho) rfl hi hd (fun H1 locs1 hP1 hD1 hS1 => ?_)
  refine k p l e s m args below meth c D cA adr X a ha H1 locs1 ls ?_ hS1 hl
  have e1 : (adr o, (Sum.inl (cA 0, len, .inl (upd (h.1 o) i.toNatClampNeg v)) : va_E)) = (adr o, cellOf cA adr (sI h o i.toNatClampNeg v) o (0, len, [])) := by
    show _ = (adr o, (Sum.inl (cA 0, len, .inl ((sI h o i.toNatClampNeg v).1 o)) : va_E))
    rw [sI_at]
  rw [e1, wld_set ho (fun a ha => sI_ne h _ v ha) (fun a _ => rfl)] at hP1
  exact hP1
theorem sim_bast {o len : Nat} {i v : Int32} (ho : tbl[o]? = some (1, len, [])) (hi : vp_in i len) (hd : decode cc pc = .ok (.bastore, 1)) (k : Sim own cc nL ret n out t (pc + 1) L st (sI h o i.toNatClampNeg (vp_nar .byte v))) : Sim own cc nL ret n out t pc L (.int v :: .int i :: .ref o :: st) h := by
  intro p l e s m args below meth c D cA adr X a ha H locs ls hP hS hl
  refine va_bast (D := D) (cl := classes) (f := h.1 o) (A := Aw adr) X.1.1 X.1.2.1 X.2.2.2.1.1 hP (wld_D X.2.2.2.2) hS o 1 (wld_at ho) rfl hi hd (fun H1 locs1 hP1 hD1 hS1 => ?_)
  refine k p l e s m args below meth c D cA adr X a ha H1 locs1 ls ?_ hS1 hl
  have e1 : (adr o, (Sum.inl (cA 1, len, .inl (upd (h.1 o) i.toNatClampNeg (vp_nar .byte v))) : va_E)) = (adr o, cellOf cA adr (sI h o i.toNatClampNeg (vp_nar .byte v)) o (1, len, [])) := by
    show _ = (adr o, (Sum.inl (cA 1, len, .inl ((sI h o i.toNatClampNeg (vp_nar .byte v)).1 o)) : va_E))
    rw [sI_at]
  rw [e1, wld_set ho (fun a ha => sI_ne h _ _ ha) (fun a _ => rfl)] at hP1
  exact hP1
theorem sim_last {o len : Nat} {i : Int32} {v : Int64} (ho : tbl[o]? = some (2, len, [])) (hi : vp_in i len) (hd : decode cc pc = .ok (.lastore, 1)) (k : Sim own cc nL ret n out t (pc + 1) L st (sJ h o i.toNatClampNeg v)) : Sim own cc nL ret n out t pc L (.long v :: .int i :: .ref o :: st) h := by
  intro p l e s m args below meth c D cA adr X a ha H locs ls hP hS hl
  refine va_last (D := D) (cl := classes) (f := h.2 o) (A := Aw adr) X.1.1 X.1.2.1 X.2.2.2.1.1 hP (wld_D X.2.2.2.2) hS o 2 (wld_at ho) rfl hi hd (fun H1 locs1 hP1 hD1 hS1 => ?_)
  refine k p l e s m args below meth c D cA adr X a ha H1 locs1 ls ?_ hS1 hl
  have e1 : (adr o, (Sum.inl (cA 2, len, .inr (.inl (vp_updL (h.2 o) i.toNatClampNeg v))) : va_E)) = (adr o, cellOf cA adr (sJ h o i.toNatClampNeg v) o (2, len, [])) := by
    show _ = (adr o, (Sum.inl (cA 2, len, .inr (.inl ((sJ h o i.toNatClampNeg v).2 o))) : va_E))
    rw [sJ_at]
  rw [e1, wld_set (h := h) (h' := sJ h o i.toNatClampNeg v) ho (fun a _ => rfl) (fun a ha => sJ_ne h _ v ha)] at hP1
  exact hP1
theorem qcA_end {D : va_G} {cA : Nat → ClassId} {adr : Nat → Nat} {s : State} {H : Heap} {locs : List Loc} {args : Array Value} {o : Option Value} (hP : va_P D classes (wld cA adr h) H) (hS : va_S (Aw adr) s.heap H locs) (t : State) (ht : t.heap = H) : QcA D cA adr (o, h) args s (.returned o) t :=
  ⟨rfl, by rw [ht]; exact hP, hS.F ht⟩
theorem sim_iret {v : Int32} (hr : ret = some .int) (ho : out t = some (some (.int v), h)) (hd : decode cc pc = .ok (.ireturn, 1)) : Sim own cc nL ret n out t pc L [.int v] h := by
  intro p l e s m args below meth c D cA adr X a ha H locs ls hP hS hl
  have hlocks : meth.locks = false := X.2.2.1
  have ea : a = (some (.int v), h) := (Option.some.inj (ho.symm.trans ha)).symm
  subst ea
  exact W.iret X.1.1 X.1.2.1 (X.2.1.trans hr) (fun t ht _ => qcA_end hP hS t ht) hS.2.2 hd
theorem sim_zret {v : Int32} {ty : FieldType} (hr : ret = some ty) (hn : narrow ty (.int v) = .int v) (ho : out t = some (some (.int v), h)) (hd : decode cc pc = .ok (.ireturn, 1)) : Sim own cc nL ret n out t pc L [.int v] h := by
  intro p l e s m args below meth c D cA adr X a ha H locs ls hP hS hl
  have hlocks : meth.locks = false := X.2.2.1
  have ea : a = (some (.int v), h) := (Option.some.inj (ho.symm.trans ha)).symm
  subst ea
  exact W.zret X.1.1 X.1.2.1 (X.2.1.trans hr) hn (fun t ht _ => qcA_end hP hS t ht) hS.2.2 hd
theorem sim_lret {v : Int64} (hr : ret = some .long) (ho : out t = some (some (.long v), h)) (hd : decode cc pc = .ok (.lreturn, 1)) : Sim own cc nL ret n out t pc L [.long v] h := by
  intro p l e s m args below meth c D cA adr X a ha H locs ls hP hS hl
  have hlocks : meth.locks = false := X.2.2.1
  have ea : a = (some (.long v), h) := (Option.some.inj (ho.symm.trans ha)).symm
  subst ea
  exact W.lret X.1.1 X.1.2.1 (X.2.1.trans hr) (fun t ht _ => qcA_end hP hS t ht) hS.2.2 hd
theorem sim_vret (hr : ret = none) (ho : out t = some (none, h)) (hd : decode cc pc = .ok (.return_, 1)) : Sim own cc nL ret n out t pc L [] h := by
  intro p l e s m args below meth c D cA adr X a ha H locs ls hP hS hl
  have hlocks : meth.locks = false := X.2.2.1
  have ea : a = (none, h) := (Option.some.inj (ho.symm.trans ha)).symm
  subst ea
  exact W.vret X.1.1 X.1.2.1 (X.2.1.trans hr) (fun t ht _ => qcA_end hP hS t ht) hS.2.2 hd
theorem lv_args_cv (adr : Nat → Nat) (av : List Value) : ∀ i, lv_args i (av.map (cv adr)) = (lv_args i av).map (cvl adr) := by
  induction av with
  | nil => intro i; rfl
  | cons v vs ih =>
    intro i
    show (i, cv adr v) :: lv_args (if (cv adr v).category = 2 then i + 2 else i + 1) (vs.map (cv adr)) = cvl adr (i, v) :: (lv_args (if v.category = 2 then i + 2 else i + 1) vs).map (cvl adr)
    rw [cv_cat, ih]
    rfl
theorem lg_sl_cv (adr : Nat → Nat) (av : List Value) : (lg_sl (av.map (cv adr))).length = (lg_sl av).length := by
  unfold lg_sl
  induction av with
  | nil => rfl
  | cons v vs ih =>
    rw [List.map_cons, List.flatMap_cons, List.flatMap_cons, List.length_append, List.length_append, ih, cv_cat]
    split <;> rfl
theorem ok_of {y : MethodName} {av : List Value} {a : Option Value × AH} (hs : Sim y.cls cc nL ret n out t 0 (lv_args 0 av) [] h) (ha : out t = some a) (hy : plainName y.cls = true) (hsz : (lg_sl av).length ≤ nL) : Ok y cc nL ret n av h a := by
  intro l D cA adr hI
  refine Met.ofW (cc := cc) (maxL := nL) (ret := ret) hy rfl ?_
  intro p e s m args below meth c s₁ B hml hv
  obtain ⟨rfl, hW, hP⟩ := hv
  have hts := atoms_spec (ws := .code y cc nL ret :: gtbl) B.pre
  have hown : s.vm.findClass y.cls = some m.cls := findClass_of_methodNamed B.named
  have hl := lv_entry (av.map (cv adr)) (n := nL) (by rw [lg_sl_cv]; exact hsz)
  rw [lv_args_cv] at hl
  rw [lg_entry_eq]
  exact hs p l e s m _ below meth c D cA adr ⟨⟨B.exec, B.bytes, hml, hown, fun w hw => hts w (List.mem_cons_of_mem _ hw)⟩, B.returns, B.notSynchronized, hW, hI⟩ a ha s.heap [] _ hP va_S.rf hl
theorem pcA_blind {D : va_G} {cA : Nat → ClassId} {adr : Nat → Nat} {av : List Value} : FrameBlind (PcA D cA adr av h) := fun a U g mk q => ⟨q.1, q.2.1.calling g mk a, q.2.2⟩
theorem run_sim {p : Program} {l : Launch} {e : Env} {R : Room} {s : State} {m : MethodId} {args a' : Array Value} {below : List Frame} {meth : Method} {c : Code} {H : Heap} {locs : List Loc} {Q : State → Prop} {D : va_G} {cA : Nat → ClassId} {adr : Nat → Nat} {ls : Array Slot} {st0 rest : List Value} {r : Option Value} {h1 : AH}
    (hr : va_Run p l e R s m args below meth c H locs 0 0 0 0 (F0 m pc ls st0) rest (QcA D cA adr (r, h1) a') (Aw adr)) (hS : va_S (Aw adr) s.heap H locs)
    (kk : ∀ (H1 : Heap) (locs1 : List Loc), va_P D classes (wld cA adr h1) H1 → va_S (Aw adr) s.heap H1 locs1 → W p l e R s m args below meth c H1 locs1 0 0 Q (F0 m (pc + 3) ls (r.toList ++ rest))) : W p l e R s m args below meth c H locs 0 0 Q (F0 m pc ls st0) := by
  intro T hT X
  obtain ⟨v, st₀, t, T', L, h0, X', hL, e1, e2, ⟨hv, hp, hz, hk⟩, st⟩ := hr T hT X
  cases hv
  rw [h0] at hz hk
  obtain ⟨t2, a1, b1⟩ := kk T'.heap (locs ++ L) (by rw [e1]; exact hp)
    ⟨Nat.le_trans hS.1 (by rw [e1]; exact hz), fun q h1 h2 => by rw [e1, hk q (Nat.lt_of_lt_of_le h1 hS.1) h2]; exact hS.2.1 q h1 h2, fun q hq => by
      rcases List.mem_append.mp hq with h | h
      · exact hS.2.2 q h
      · exact hL q h⟩ T' rfl X'
  exact ⟨t2, st t2 a1, b1⟩
theorem toL_cv (adr : Nat → Nat) {r : Option Value} (hr : r.map (cv adr) = r) : (r.toList ++ st).map (cv adr) = r.toList ++ st.map (cv adr) := by
  cases r with
  | none => rfl
  | some v =>
    have := Option.some.inj hr
    show cv adr v :: st.map (cv adr) = v :: st.map (cv adr)
    rw [this]
theorem cat_cv (adr : Nat → Nat) : ((st.map (cv adr)).map fun v => v.category).sum = (st.map fun v => v.category).sum := by
  congr 1
  rw [List.map_map]
  congr 1
  funext v
  exact cv_cat adr v
theorem sim_cV {y : MethodName} {bytes : ByteArray} {maxL n' o ci idx k9 : Nat} {ret' : Option FieldType} {fs : List (Nat × Nat)} {q : vw_C} {As stk : List Value} {r : Option Value} {h1 : AH} (hok : Ok y bytes maxL ret' n' (.ref o :: As) h (r, h1)) (hr : ∀ adr, r.map (cv adr) = r) (hl : ML own idx y) (hm : MV y bytes maxL ret' k9) (ho : tbl[o]? = some (3, ci, fs)) (hc : classes[ci]? = some q) (hq : q.1 = y.cls) (hs : As.reverse ++ .ref o :: st = stk) (hn : n' + 1 ≤ n) (hk : As.length = k9) (hst : (st.map fun v => v.category).sum ≤ 8) (hd : decode cc pc = .ok (.invokevirtual idx, 3))
    (k : Sim own cc nL ret n out t (pc + 3) L (r.toList ++ st) h1) : Sim own cc nL ret n out t pc L stk h := by
  intro p l e s m args below meth c D cA adr X a ha H locs ls hP hS hll
  subst hs
  obtain ⟨⟨hcode, hini, hyd, hmx⟩, hinst, hsel⟩ := hm
  have hPre : PreV s H y.cls (adr o) (PcA D cA adr (.ref o :: As) h) (As.map (cv adr)) := ⟨pcA_blind, by rw [← hq]; exact va_recv X.2.2.2.1.1 hP hc (wld_at ho), fun U hU hW => ⟨rfl, X.2.2.2.1.later hS hU hW, by rw [hU]; exact hP⟩⟩
  have hR : (rmH n').frames + 1 ≤ (rmH n).frames ∧ 8 + (maxL + 11) + (rmH n').locals ≤ (rmH n).locals := ⟨hn, by show 8 + (maxL + 11) + 40 * n' ≤ 40 * n; omega⟩
  have hstk : (List.map (cv adr) (As.reverse ++ .ref o :: st)) = (As.map (cv adr)).reverse ++ .ref (adr o) :: st.map (cv adr) := by
    rw [List.map_append, List.map_reverse]
    rfl
  have key : va_Run p l e (rmH n) s m args below meth c H locs 0 0 0 0 (F0 m pc ls (List.map (cv adr) (As.reverse ++ .ref o :: st))) (st.map (cv adr)) (QcA D cA adr (r, h1) (Value.ref (adr o) :: As.map (cv adr)).toArray) (Aw adr) := by
    rcases hl with hl | ⟨host, hl⟩
    · exact va_runV X.1 (hok l D cA adr X.2.2.2.2) ⟨callB_of k9 X.1.2.2.2.2 (gtbl_code hcode) rfl rfl rfl (X.1.2.2.2.2 _ hini) (X.1.2.2.2.2 _ hl) hyd hR, X.1.2.2.2.2 _ hinst, X.1.2.2.2.2 _ hsel⟩ hPre rfl (by rw [List.length_map]; exact hk) hll.1 hstk (lv_room (by rw [cat_cv]; exact hst)) hd ⟨Nat.le_refl _, Nat.le_refl _⟩
    · exact va_runVN X.1 (hok l D cA adr X.2.2.2.2) ⟨va_cnB k9 X.1.2.2.2.2 (gtbl_code hcode) rfl rfl rfl (X.2.2.2.1.2.1 _ hl) (X.1.2.2.2.2 _ hini) hyd hR, X.1.2.2.2.2 _ hinst, X.1.2.2.2.2 _ hsel⟩ hPre rfl (by rw [List.length_map]; exact hk) hll.1 hstk (lv_room (by rw [cat_cv]; exact hst)) hd ⟨Nat.le_refl _, Nat.le_refl _⟩
  refine run_sim key hS (fun H1 locs1 hP1 hS1 => ?_)
  have := k p l e s m args below meth c D cA adr X a ha H1 locs1 ls hP1 hS1 hll
  rwa [toL_cv adr (hr adr)] at this
theorem sim_cS {y : MethodName} {bytes : ByteArray} {maxL n' idx k9 : Nat} {ret' : Option FieldType} {As stk : List Value} {r : Option Value} {h1 : AH} (hok : Ok y bytes maxL ret' n' As h (r, h1)) (hr : ∀ adr, r.map (cv adr) = r) (hl : ML own idx y) (hm : MS y bytes maxL ret' k9) (hs : As.reverse ++ st = stk) (hn : n' + 1 ≤ n) (hk : As.length = k9) (hst : (st.map fun v => v.category).sum ≤ 8) (hd : decode cc pc = .ok (.invokestatic idx, 3))
    (k : Sim own cc nL ret n out t (pc + 3) L (r.toList ++ st) h1) : Sim own cc nL ret n out t pc L stk h := by
  intro p l e s m args below meth c D cA adr X a ha H locs ls hP hS hll
  subst hs
  obtain ⟨⟨hcode, hini, hyd, hmx⟩, hstat⟩ := hm
  have hPre : PreS s H (PcA D cA adr As h) (As.map (cv adr)) := ⟨pcA_blind, fun U hU hW => ⟨rfl, X.2.2.2.1.later hS hU hW, by rw [hU]; exact hP⟩⟩
  have hR : (rmH n').frames + 1 ≤ (rmH n).frames ∧ 8 + (maxL + 11) + (rmH n').locals ≤ (rmH n).locals := ⟨hn, by show 8 + (maxL + 11) + 40 * n' ≤ 40 * n; omega⟩
  have hstk : (List.map (cv adr) (As.reverse ++ st)) = (As.map (cv adr)).reverse ++ st.map (cv adr) := by
    rw [List.map_append, List.map_reverse]
  have key : va_Run p l e (rmH n) s m args below meth c H locs 0 0 0 0 (F0 m pc ls (List.map (cv adr) (As.reverse ++ st))) (st.map (cv adr)) (QcA D cA adr (r, h1) (As.map (cv adr)).toArray) (Aw adr) := by
    rcases hl with hl | ⟨host, hl⟩
    · exact va_runS X.1 (hok l D cA adr X.2.2.2.2) ⟨callB_of k9 X.1.2.2.2.2 (gtbl_code hcode) rfl rfl rfl (X.1.2.2.2.2 _ hini) (X.1.2.2.2.2 _ hl) hyd hR, X.1.2.2.2.2 _ hstat⟩ hPre rfl (by rw [List.length_map]; exact hk) hll.1 hstk (lv_room (by rw [cat_cv]; exact hst)) hd ⟨Nat.le_refl _, Nat.le_refl _⟩
    · exact va_runSN X.1 (hok l D cA adr X.2.2.2.2) ⟨va_cnB k9 X.1.2.2.2.2 (gtbl_code hcode) rfl rfl rfl (X.2.2.2.1.2.1 _ hl) (X.1.2.2.2.2 _ hini) hyd hR, X.1.2.2.2.2 _ hstat, trivial⟩ hPre rfl (by rw [List.length_map]; exact hk) hll.1 hstk (lv_room (by rw [cat_cv]; exact hst)) hd ⟨Nat.le_refl _, Nat.le_refl _⟩
  refine run_sim key hS (fun H1 locs1 hP1 hS1 => ?_)
  have := k p l e s m args below meth c D cA adr X a ha H1 locs1 ls hP1 hS1 hll
  rwa [toL_cv adr (hr adr)] at this
end SimCells
